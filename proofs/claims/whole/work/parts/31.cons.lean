theorem kfs_len (c : Nat) : (kfs c).length ≤ 80 := by unfold kfs; split <;> decide
theorem mrk_80 {sh : Sh} (h : ∀ o, o < sh.1 → sh.2.1 o = 16 ∨ sh.2.1 o = 17 → sh.2.2 o ≤ 80) : ∀ o j, o < sh.1 → 80 ≤ j → mrk sh o j = 99 := by
  intro o j ho hj
  unfold mrk
  split
  · rw [List.getD_eq_getElem?_getD, List.getElem?_eq_none (by have := kfs_len (sh.2.1 o); omega)]; rfl
  · split
    · next h1 h2 => rw [if_neg (by have := h o ho (Or.inl h2); omega)]
    · split
      · next h1 h2 h3 => rw [if_neg (by have := h o ho (Or.inr h3); omega)]
      · rfl
theorem mrk80X : ∀ o j, o < shX.1 → 80 ≤ j → mrk shX o j = 99 := mrk_80 (by decide +kernel)
theorem mrk80M : ∀ o j, o < shM.1 → 80 ≤ j → mrk shM o j = 99 := mrk_80 (by decide +kernel)
def okO (sh : Sh) (id ci : Nat) : Bool := decide (id < sh.1 ∧ sh.2.1 id = ci)
theorem okO_spec {sh : Sh} {id ci : Nat} (h : okO sh id ci = true) : id < sh.1 ∧ sh.2.1 id = ci := of_decide_eq_true h
def okA (sh : Sh) (id kd : Nat) (i : Int32) : Bool := decide (id < sh.1 ∧ sh.2.1 id = kd ∧ ¬ i < 0 ∧ i.toNatClampNeg = sh.2.2 id ∧ sh.2.2 id ≤ 1000)
theorem okA_spec {sh : Sh} {id kd : Nat} {i : Int32} (h : okA sh id kd i = true) : id < sh.1 ∧ sh.2.1 id = kd ∧ ¬ i < 0 ∧ i.toNatClampNeg = sh.2.2 id ∧ sh.2.2 id ≤ 1000 := of_decide_eq_true h
theorem wip_I (S : MS) (n : Nat) : (wip S n).1 n = fun _ => 0 := by funext j; simp [wip]
theorem wip_J (S : MS) (n : Nat) : (wip S n).2.2 n = fun _ => 0 := by funext j; simp [wip]
theorem okN {a b N : Nat} (h : a + b ≤ N) {c : Nat} (hc : c ≤ b := by decide) : a + c ≤ N := by omega
theorem ob_1 : Cond.instanceMethod objectInit ∈ gtbl := gm_1 30 rfl rfl
theorem ob_2 : Cond.code objectInit ⟨#[0xb1]⟩ 1 none ∈ gtbl := gm_1 31 rfl rfl
theorem ffX0_11 : mFf RX0 11 0 0 13 (.array .int) := ⟨by decide, rfl, TX0, 2, tyX0, rfl, by decide, inX0, gm_2 43 rfl rfl, tyX0_ok, nmX0, rfl, rfl, by decide +kernel⟩
theorem ffX10_28 : mFf RX10 28 10 3 5 (.object "ShadowTwin$Reader") := ⟨by decide, rfl, TX10, 16, tyX10, rfl, by decide, inX10, gm_3 34 rfl rfl, tyX10_ok, nmX10, rfl, rfl, by decide +kernel⟩
theorem ffX10_35 : mFf RX10 35 10 4 0 (.object "ShadowTwin$Course") := ⟨by decide, rfl, TX10, 16, tyX10, rfl, by decide, inX10, gm_3 35 rfl rfl, tyX10_ok, nmX10, rfl, rfl, by decide +kernel⟩
theorem ffX10_44 : mFf RX10 44 10 5 4 (.object "ShadowTwin$Planner") := ⟨by decide, rfl, TX10, 16, tyX10, rfl, by decide, inX10, gm_3 36 rfl rfl, tyX10_ok, nmX10, rfl, rfl, by decide +kernel⟩
theorem ffX10_51 : mFf RX10 51 10 6 3 (.object "ShadowTwin$Paths") := ⟨by decide, rfl, TX10, 16, tyX10, rfl, by decide, inX10, gm_3 37 rfl rfl, tyX10_ok, nmX10, rfl, rfl, by decide +kernel⟩
theorem ffX10_58 : mFf RX10 58 10 7 2 (.object "ShadowTwin$Log") := ⟨by decide, rfl, TX10, 16, tyX10, rfl, by decide, inX10, gm_3 38 rfl rfl, tyX10_ok, nmX10, rfl, rfl, by decide +kernel⟩
theorem ffX10_65 : mFf RX10 65 10 8 6 (.object "ShadowTwin$Sight") := ⟨by decide, rfl, TX10, 16, tyX10, rfl, by decide, inX10, gm_3 39 rfl rfl, tyX10_ok, nmX10, rfl, rfl, by decide +kernel⟩
theorem ffX10_72 : mFf RX10 72 10 9 9 (.object "ShadowTwin$World") := ⟨by decide, rfl, TX10, 16, tyX10, rfl, by decide, inX10, gm_3 40 rfl rfl, tyX10_ok, nmX10, rfl, rfl, by decide +kernel⟩
theorem ffX10_76 : mFf RX10 76 10 10 9 (.object "ShadowTwin$World") := ⟨by decide, rfl, TX10, 16, tyX10, rfl, by decide, inX10, gm_3 41 rfl rfl, tyX10_ok, nmX10, rfl, rfl, by decide +kernel⟩
theorem ffX10_79 : mFf RX10 79 10 11 9 (.object "ShadowTwin$World") := ⟨by decide, rfl, TX10, 16, tyX10, rfl, by decide, inX10, gm_3 42 rfl rfl, tyX10_ok, nmX10, rfl, rfl, by decide +kernel⟩
theorem ffX10_9 : mFf RX10 9 10 0 12 (.array .byte) := ⟨by decide, rfl, TX10, 16, tyX10, rfl, by decide, inX10, gm_3 31 rfl rfl, tyX10_ok, nmX10, rfl, rfl, by decide +kernel⟩
theorem ffX11_102 : mFf RX11 102 11 46 13 (.array .int) := ⟨by decide, rfl, TX11, 74, tyX11, rfl, by decide, inX11, gm_6 97 rfl rfl, tyX11_ok, nmX11, rfl, rfl, by decide +kernel⟩
theorem ffX11_105 : mFf RX11 105 11 47 13 (.array .int) := ⟨by decide, rfl, TX11, 74, tyX11, rfl, by decide, inX11, gm_6 98 rfl rfl, tyX11_ok, nmX11, rfl, rfl, by decide +kernel⟩
theorem ffX11_108 : mFf RX11 108 11 48 13 (.array .int) := ⟨by decide, rfl, TX11, 74, tyX11, rfl, by decide, inX11, gm_6 99 rfl rfl, tyX11_ok, nmX11, rfl, rfl, by decide +kernel⟩
theorem ffX11_111 : mFf RX11 111 11 49 13 (.array .int) := ⟨by decide, rfl, TX11, 74, tyX11, rfl, by decide, inX11, gm_6 100 rfl rfl, tyX11_ok, nmX11, rfl, rfl, by decide +kernel⟩
theorem ffX11_114 : mFf RX11 114 11 50 13 (.array .int) := ⟨by decide, rfl, TX11, 74, tyX11, rfl, by decide, inX11, gm_6 101 rfl rfl, tyX11_ok, nmX11, rfl, rfl, by decide +kernel⟩
theorem ffX11_117 : mFf RX11 117 11 51 13 (.array .int) := ⟨by decide, rfl, TX11, 74, tyX11, rfl, by decide, inX11, gm_6 102 rfl rfl, tyX11_ok, nmX11, rfl, rfl, by decide +kernel⟩
theorem ffX11_120 : mFf RX11 120 11 52 13 (.array .int) := ⟨by decide, rfl, TX11, 74, tyX11, rfl, by decide, inX11, gm_6 103 rfl rfl, tyX11_ok, nmX11, rfl, rfl, by decide +kernel⟩
theorem ffX11_123 : mFf RX11 123 11 53 13 (.array .int) := ⟨by decide, rfl, TX11, 74, tyX11, rfl, by decide, inX11, gm_6 104 rfl rfl, tyX11_ok, nmX11, rfl, rfl, by decide +kernel⟩
theorem ffX11_126 : mFf RX11 126 11 54 13 (.array .int) := ⟨by decide, rfl, TX11, 74, tyX11, rfl, by decide, inX11, gm_6 105 rfl rfl, tyX11_ok, nmX11, rfl, rfl, by decide +kernel⟩
theorem ffX11_129 : mFf RX11 129 11 62 13 (.array .int) := ⟨by decide, rfl, TX11, 74, tyX11, rfl, by decide, inX11, gm_6 113 rfl rfl, tyX11_ok, nmX11, rfl, rfl, by decide +kernel⟩
theorem ffX11_13 : mFf RX11 13 11 3 13 (.array .int) := ⟨by decide, rfl, TX11, 74, tyX11, rfl, by decide, inX11, gm_6 54 rfl rfl, tyX11_ok, nmX11, rfl, rfl, by decide +kernel⟩
theorem ffX11_132 : mFf RX11 132 11 63 13 (.array .int) := ⟨by decide, rfl, TX11, 74, tyX11, rfl, by decide, inX11, gm_6 114 rfl rfl, tyX11_ok, nmX11, rfl, rfl, by decide +kernel⟩
theorem ffX11_135 : mFf RX11 135 11 64 13 (.array .int) := ⟨by decide, rfl, TX11, 74, tyX11, rfl, by decide, inX11, gm_6 115 rfl rfl, tyX11_ok, nmX11, rfl, rfl, by decide +kernel⟩
theorem ffX11_141 : mFf RX11 141 11 68 13 (.array .int) := ⟨by decide, rfl, TX11, 74, tyX11, rfl, by decide, inX11, gm_6 119 rfl rfl, tyX11_ok, nmX11, rfl, rfl, by decide +kernel⟩
theorem ffX11_144 : mFf RX11 144 11 69 13 (.array .int) := ⟨by decide, rfl, TX11, 74, tyX11, rfl, by decide, inX11, gm_6 120 rfl rfl, tyX11_ok, nmX11, rfl, rfl, by decide +kernel⟩
theorem ffX11_147 : mFf RX11 147 11 70 13 (.array .int) := ⟨by decide, rfl, TX11, 74, tyX11, rfl, by decide, inX11, gm_6 121 rfl rfl, tyX11_ok, nmX11, rfl, rfl, by decide +kernel⟩
theorem ffX11_150 : mFf RX11 150 11 71 15 (.array .boolean) := ⟨by decide, rfl, TX11, 74, tyX11, rfl, by decide, inX11, gm_6 122 rfl rfl, tyX11_ok, nmX11, rfl, rfl, by decide +kernel⟩
theorem ffX11_154 : mFf RX11 154 11 72 13 (.array .int) := ⟨by decide, rfl, TX11, 74, tyX11, rfl, by decide, inX11, gm_6 123 rfl rfl, tyX11_ok, nmX11, rfl, rfl, by decide +kernel⟩
theorem ffX11_157 : mFf RX11 157 11 73 15 (.array .boolean) := ⟨by decide, rfl, TX11, 74, tyX11, rfl, by decide, inX11, gm_6 124 rfl rfl, tyX11_ok, nmX11, rfl, rfl, by decide +kernel⟩
theorem ffX11_16 : mFf RX11 16 11 4 13 (.array .int) := ⟨by decide, rfl, TX11, 74, tyX11, rfl, by decide, inX11, gm_6 55 rfl rfl, tyX11_ok, nmX11, rfl, rfl, by decide +kernel⟩
theorem ffX11_19 : mFf RX11 19 11 5 13 (.array .int) := ⟨by decide, rfl, TX11, 74, tyX11, rfl, by decide, inX11, gm_6 56 rfl rfl, tyX11_ok, nmX11, rfl, rfl, by decide +kernel⟩
theorem ffX11_22 : mFf RX11 22 11 6 13 (.array .int) := ⟨by decide, rfl, TX11, 74, tyX11, rfl, by decide, inX11, gm_6 57 rfl rfl, tyX11_ok, nmX11, rfl, rfl, by decide +kernel⟩
theorem ffX11_25 : mFf RX11 25 11 7 13 (.array .int) := ⟨by decide, rfl, TX11, 74, tyX11, rfl, by decide, inX11, gm_6 58 rfl rfl, tyX11_ok, nmX11, rfl, rfl, by decide +kernel⟩
theorem ffX11_28 : mFf RX11 28 11 8 13 (.array .int) := ⟨by decide, rfl, TX11, 74, tyX11, rfl, by decide, inX11, gm_6 59 rfl rfl, tyX11_ok, nmX11, rfl, rfl, by decide +kernel⟩
theorem ffX11_31 : mFf RX11 31 11 9 13 (.array .int) := ⟨by decide, rfl, TX11, 74, tyX11, rfl, by decide, inX11, gm_6 60 rfl rfl, tyX11_ok, nmX11, rfl, rfl, by decide +kernel⟩
theorem ffX11_34 : mFf RX11 34 11 10 13 (.array .int) := ⟨by decide, rfl, TX11, 74, tyX11, rfl, by decide, inX11, gm_6 61 rfl rfl, tyX11_ok, nmX11, rfl, rfl, by decide +kernel⟩
theorem ffX11_37 : mFf RX11 37 11 11 13 (.array .int) := ⟨by decide, rfl, TX11, 74, tyX11, rfl, by decide, inX11, gm_6 62 rfl rfl, tyX11_ok, nmX11, rfl, rfl, by decide +kernel⟩
theorem ffX11_40 : mFf RX11 40 11 12 13 (.array .int) := ⟨by decide, rfl, TX11, 74, tyX11, rfl, by decide, inX11, gm_6 63 rfl rfl, tyX11_ok, nmX11, rfl, rfl, by decide +kernel⟩
theorem ffX11_43 : mFf RX11 43 11 13 13 (.array .int) := ⟨by decide, rfl, TX11, 74, tyX11, rfl, by decide, inX11, gm_6 64 rfl rfl, tyX11_ok, nmX11, rfl, rfl, by decide +kernel⟩
theorem ffX11_46 : mFf RX11 46 11 14 13 (.array .int) := ⟨by decide, rfl, TX11, 74, tyX11, rfl, by decide, inX11, gm_6 65 rfl rfl, tyX11_ok, nmX11, rfl, rfl, by decide +kernel⟩
theorem ffX11_49 : mFf RX11 49 11 15 13 (.array .int) := ⟨by decide, rfl, TX11, 74, tyX11, rfl, by decide, inX11, gm_6 66 rfl rfl, tyX11_ok, nmX11, rfl, rfl, by decide +kernel⟩
theorem ffX11_52 : mFf RX11 52 11 16 13 (.array .int) := ⟨by decide, rfl, TX11, 74, tyX11, rfl, by decide, inX11, gm_6 67 rfl rfl, tyX11_ok, nmX11, rfl, rfl, by decide +kernel⟩
theorem ffX11_55 : mFf RX11 55 11 17 13 (.array .int) := ⟨by decide, rfl, TX11, 74, tyX11, rfl, by decide, inX11, gm_6 68 rfl rfl, tyX11_ok, nmX11, rfl, rfl, by decide +kernel⟩
theorem ffX11_58 : mFf RX11 58 11 18 13 (.array .int) := ⟨by decide, rfl, TX11, 74, tyX11, rfl, by decide, inX11, gm_6 69 rfl rfl, tyX11_ok, nmX11, rfl, rfl, by decide +kernel⟩
theorem ffX11_61 : mFf RX11 61 11 19 13 (.array .int) := ⟨by decide, rfl, TX11, 74, tyX11, rfl, by decide, inX11, gm_6 70 rfl rfl, tyX11_ok, nmX11, rfl, rfl, by decide +kernel⟩
theorem ffX11_64 : mFf RX11 64 11 20 13 (.array .int) := ⟨by decide, rfl, TX11, 74, tyX11, rfl, by decide, inX11, gm_6 71 rfl rfl, tyX11_ok, nmX11, rfl, rfl, by decide +kernel⟩
theorem ffX11_67 : mFf RX11 67 11 21 13 (.array .int) := ⟨by decide, rfl, TX11, 74, tyX11, rfl, by decide, inX11, gm_6 72 rfl rfl, tyX11_ok, nmX11, rfl, rfl, by decide +kernel⟩
theorem ffX11_7 : mFf RX11 7 11 1 13 (.array .int) := ⟨by decide, rfl, TX11, 74, tyX11, rfl, by decide, inX11, gm_6 52 rfl rfl, tyX11_ok, nmX11, rfl, rfl, by decide +kernel⟩
theorem ffX11_70 : mFf RX11 70 11 22 13 (.array .int) := ⟨by decide, rfl, TX11, 74, tyX11, rfl, by decide, inX11, gm_6 73 rfl rfl, tyX11_ok, nmX11, rfl, rfl, by decide +kernel⟩
theorem ffX11_73 : mFf RX11 73 11 23 13 (.array .int) := ⟨by decide, rfl, TX11, 74, tyX11, rfl, by decide, inX11, gm_6 74 rfl rfl, tyX11_ok, nmX11, rfl, rfl, by decide +kernel⟩
theorem ffX11_76 : mFf RX11 76 11 24 13 (.array .int) := ⟨by decide, rfl, TX11, 74, tyX11, rfl, by decide, inX11, gm_6 75 rfl rfl, tyX11_ok, nmX11, rfl, rfl, by decide +kernel⟩
theorem ffX11_79 : mFf RX11 79 11 25 13 (.array .int) := ⟨by decide, rfl, TX11, 74, tyX11, rfl, by decide, inX11, gm_6 76 rfl rfl, tyX11_ok, nmX11, rfl, rfl, by decide +kernel⟩
theorem ffX11_86 : mFf RX11 86 11 40 14 (.array .long) := ⟨by decide, rfl, TX11, 74, tyX11, rfl, by decide, inX11, gm_6 91 rfl rfl, tyX11_ok, nmX11, rfl, rfl, by decide +kernel⟩
theorem ffX11_90 : mFf RX11 90 11 41 14 (.array .long) := ⟨by decide, rfl, TX11, 74, tyX11, rfl, by decide, inX11, gm_6 92 rfl rfl, tyX11_ok, nmX11, rfl, rfl, by decide +kernel⟩
theorem ffX11_93 : mFf RX11 93 11 43 13 (.array .int) := ⟨by decide, rfl, TX11, 74, tyX11, rfl, by decide, inX11, gm_6 94 rfl rfl, tyX11_ok, nmX11, rfl, rfl, by decide +kernel⟩
theorem ffX11_96 : mFf RX11 96 11 44 13 (.array .int) := ⟨by decide, rfl, TX11, 74, tyX11, rfl, by decide, inX11, gm_6 95 rfl rfl, tyX11_ok, nmX11, rfl, rfl, by decide +kernel⟩
theorem ffX11_99 : mFf RX11 99 11 45 13 (.array .int) := ⟨by decide, rfl, TX11, 74, tyX11, rfl, by decide, inX11, gm_6 96 rfl rfl, tyX11_ok, nmX11, rfl, rfl, by decide +kernel⟩
theorem ffX1_11 : mFf RX1 11 1 0 13 (.array .int) := ⟨by decide, rfl, TX1, 3, tyX1, rfl, by decide, inX1, gm_1 67 rfl rfl, tyX1_ok, nmX1, rfl, rfl, by decide +kernel⟩
theorem ffX1_15 : mFf RX1 15 1 1 14 (.array .long) := ⟨by decide, rfl, TX1, 3, tyX1, rfl, by decide, inX1, gm_1 68 rfl rfl, tyX1_ok, nmX1, rfl, rfl, by decide +kernel⟩
theorem ffX2_11 : mFf RX2 11 2 0 13 (.array .int) := ⟨by decide, rfl, TX2, 2, tyX2, rfl, by decide, inX2, gm_2 197 rfl rfl, tyX2_ok, nmX2, rfl, rfl, by decide +kernel⟩
theorem ffX3_15 : mFf RX3 15 3 1 13 (.array .int) := ⟨by decide, rfl, TX3, 3, tyX3, rfl, by decide, inX3, gm_2 182 rfl rfl, tyX3_ok, nmX3, rfl, rfl, by decide +kernel⟩
theorem ffX3_9 : mFf RX3 9 3 0 13 (.array .int) := ⟨by decide, rfl, TX3, 3, tyX3, rfl, by decide, inX3, gm_2 181 rfl rfl, tyX3_ok, nmX3, rfl, rfl, by decide +kernel⟩
theorem ffX4_15 : mFf RX4 15 4 1 13 (.array .int) := ⟨by decide, rfl, TX4, 6, tyX4, rfl, by decide, inX4, gm_2 156 rfl rfl, tyX4_ok, nmX4, rfl, rfl, by decide +kernel⟩
theorem ffX4_21 : mFf RX4 21 4 2 17 (.array (.object "ShadowTwin$World")) := ⟨by decide, rfl, TX4, 6, tyX4, rfl, by decide, inX4, gm_2 157 rfl rfl, tyX4_ok, nmX4, rfl, rfl, by decide +kernel⟩
theorem ffX4_25 : mFf RX4 25 4 3 0 (.object "ShadowTwin$Course") := ⟨by decide, rfl, TX4, 6, tyX4, rfl, by decide, inX4, gm_2 158 rfl rfl, tyX4_ok, nmX4, rfl, rfl, by decide +kernel⟩
theorem ffX4_9 : mFf RX4 9 4 0 13 (.array .int) := ⟨by decide, rfl, TX4, 6, tyX4, rfl, by decide, inX4, gm_2 154 rfl rfl, tyX4_ok, nmX4, rfl, rfl, by decide +kernel⟩
theorem ffX5_13 : mFf RX5 13 5 0 13 (.array .int) := ⟨by decide, rfl, TX5, 19, tyX5, rfl, by decide, inX5, gm_1 216 rfl rfl, tyX5_ok, nmX5, rfl, rfl, by decide +kernel⟩
theorem ffX5_17 : mFf RX5 17 5 1 13 (.array .int) := ⟨by decide, rfl, TX5, 19, tyX5, rfl, by decide, inX5, gm_1 217 rfl rfl, tyX5_ok, nmX5, rfl, rfl, by decide +kernel⟩
theorem ffX6_14 : mFf RX6 14 6 0 7 (.object "ShadowTwin$Table") := ⟨by decide, rfl, TX6, 3, tyX6, rfl, by decide, inX6, gm_2 213 rfl rfl, tyX6_ok, nmX6, rfl, rfl, by decide +kernel⟩
theorem ffX6_20 : mFf RX6 20 6 1 15 (.array .boolean) := ⟨by decide, rfl, TX6, 3, tyX6, rfl, by decide, inX6, gm_2 214 rfl rfl, tyX6_ok, nmX6, rfl, rfl, by decide +kernel⟩
theorem ffX7_15 : mFf RX7 15 7 1 99 (.int) := ⟨by decide, rfl, TX7, 4, tyX7, rfl, by decide, inX7, gm_1 45 rfl rfl, tyX7_ok, nmX7, rfl, rfl, by decide +kernel⟩
theorem ffX7_19 : mFf RX7 19 7 2 99 (.int) := ⟨by decide, rfl, TX7, 4, tyX7, rfl, by decide, inX7, gm_1 46 rfl rfl, tyX7_ok, nmX7, rfl, rfl, by decide +kernel⟩
theorem ffX7_9 : mFf RX7 9 7 0 13 (.array .int) := ⟨by decide, rfl, TX7, 4, tyX7, rfl, by decide, inX7, gm_1 44 rfl rfl, tyX7_ok, nmX7, rfl, rfl, by decide +kernel⟩
theorem ffX8_15 : mFf RX8 15 8 1 13 (.array .int) := ⟨by decide, rfl, TX8, 16, tyX8, rfl, by decide, inX8, gm_1 79 rfl rfl, tyX8_ok, nmX8, rfl, rfl, by decide +kernel⟩
theorem ffX8_24 : mFf RX8 24 8 2 7 (.object "ShadowTwin$Table") := ⟨by decide, rfl, TX8, 16, tyX8, rfl, by decide, inX8, gm_1 80 rfl rfl, tyX8_ok, nmX8, rfl, rfl, by decide +kernel⟩
theorem ffX8_28 : mFf RX8 28 8 3 7 (.object "ShadowTwin$Table") := ⟨by decide, rfl, TX8, 16, tyX8, rfl, by decide, inX8, gm_1 83 rfl rfl, tyX8_ok, nmX8, rfl, rfl, by decide +kernel⟩
theorem ffX8_31 : mFf RX8 31 8 4 7 (.object "ShadowTwin$Table") := ⟨by decide, rfl, TX8, 16, tyX8, rfl, by decide, inX8, gm_1 88 rfl rfl, tyX8_ok, nmX8, rfl, rfl, by decide +kernel⟩
theorem ffX8_34 : mFf RX8 34 8 5 7 (.object "ShadowTwin$Table") := ⟨by decide, rfl, TX8, 16, tyX8, rfl, by decide, inX8, gm_1 91 rfl rfl, tyX8_ok, nmX8, rfl, rfl, by decide +kernel⟩
theorem ffX8_37 : mFf RX8 37 8 6 7 (.object "ShadowTwin$Table") := ⟨by decide, rfl, TX8, 16, tyX8, rfl, by decide, inX8, gm_1 95 rfl rfl, tyX8_ok, nmX8, rfl, rfl, by decide +kernel⟩
theorem ffX8_43 : mFf RX8 43 8 7 16 (.array (.object "ShadowTwin$Law")) := ⟨by decide, rfl, TX8, 16, tyX8, rfl, by decide, inX8, gm_1 100 rfl rfl, tyX8_ok, nmX8, rfl, rfl, by decide +kernel⟩
theorem ffX8_9 : mFf RX8 9 8 0 15 (.array .boolean) := ⟨by decide, rfl, TX8, 16, tyX8, rfl, by decide, inX8, gm_1 78 rfl rfl, tyX8_ok, nmX8, rfl, rfl, by decide +kernel⟩
theorem ffX9_15 : mFf RX9 15 9 1 13 (.array .int) := ⟨by decide, rfl, TX9, 16, tyX9, rfl, by decide, inX9, gm_2 68 rfl rfl, tyX9_ok, nmX9, rfl, rfl, by decide +kernel⟩
theorem ffX9_18 : mFf RX9 18 9 2 13 (.array .int) := ⟨by decide, rfl, TX9, 16, tyX9, rfl, by decide, inX9, gm_2 71 rfl rfl, tyX9_ok, nmX9, rfl, rfl, by decide +kernel⟩
theorem ffX9_9 : mFf RX9 9 9 0 13 (.array .int) := ⟨by decide, rfl, TX9, 16, tyX9, rfl, by decide, inX9, gm_2 65 rfl rfl, tyX9_ok, nmX9, rfl, rfl, by decide +kernel⟩
theorem liX10_15 : mLi RX10 15 yX8_init cX8_init 1 0 := ⟨(Or.inr ⟨"ShadowTwin", nm_1 34 rfl rfl⟩), gm_1 35 rfl rfl, gm_1 2 rfl rfl, gm_1 36 rfl rfl, rfl, by decide +kernel⟩
theorem liX10_25 : mLi RX10 25 yX5_init cX5_init 7 1 := ⟨(Or.inl (gm_1 163 rfl rfl)), gm_1 164 rfl rfl, gm_1 5 rfl rfl, gm_1 165 rfl rfl, rfl, by decide +kernel⟩
theorem liX10_34 : mLi RX10 34 yX0_init cX0_init 2 1 := ⟨(Or.inl (gm_2 39 rfl rfl)), gm_2 40 rfl rfl, gm_1 10 rfl rfl, gm_2 41 rfl rfl, rfl, by decide +kernel⟩
theorem liX10_41 : mLi RX10 41 yX4_init cX4_init 2 1 := ⟨(Or.inl (gm_2 54 rfl rfl)), gm_2 55 rfl rfl, gm_1 11 rfl rfl, gm_2 56 rfl rfl, rfl, by decide +kernel⟩
theorem liX10_50 : mLi RX10 50 yX3_init cX3_init 1 0 := ⟨(Or.inr ⟨"ShadowTwin", nm_2 177 rfl rfl⟩), gm_2 178 rfl rfl, gm_1 13 rfl rfl, gm_2 179 rfl rfl, rfl, by decide +kernel⟩
theorem liX10_57 : mLi RX10 57 yX2_init cX2_init 1 0 := ⟨(Or.inr ⟨"ShadowTwin", nm_2 193 rfl rfl⟩), gm_2 194 rfl rfl, gm_1 14 rfl rfl, gm_2 195 rfl rfl, rfl, by decide +kernel⟩
theorem liX10_64 : mLi RX10 64 yX6_init cX6_init 1 0 := ⟨(Or.inr ⟨"ShadowTwin", nm_2 207 rfl rfl⟩), gm_2 208 rfl rfl, gm_1 15 rfl rfl, gm_2 209 rfl rfl, rfl, by decide +kernel⟩
theorem liX10_71 : mLi RX10 71 yX9_init cX9_init 1 0 := ⟨(Or.inr ⟨"ShadowTwin", nm_2 225 rfl rfl⟩), gm_2 62 rfl rfl, gm_1 12 rfl rfl, gm_2 63 rfl rfl, rfl, by decide +kernel⟩
theorem liX4_20 : mLi RX4 20 yX9_init cX9_init 1 0 := ⟨(Or.inr ⟨"ShadowTwin", nm_2 61 rfl rfl⟩), gm_2 62 rfl rfl, gm_1 12 rfl rfl, gm_2 63 rfl rfl, rfl, by decide +kernel⟩
theorem liX6_11 : mLi RX6 11 yX7_init cX7_init 3 2 := ⟨(Or.inl (gm_2 212 rfl rfl)), gm_1 41 rfl rfl, gm_1 3 rfl rfl, gm_1 42 rfl rfl, rfl, by decide +kernel⟩
theorem liX8_21 : mLi RX8 21 yX7_init cX7_init 3 2 := ⟨(Or.inl (gm_1 40 rfl rfl)), gm_1 41 rfl rfl, gm_1 3 rfl rfl, gm_1 42 rfl rfl, rfl, by decide +kernel⟩
theorem liX8_42 : mLi RX8 42 yX1_init cX1_init 1 0 := ⟨(Or.inr ⟨"ShadowTwin", nm_1 63 rfl rfl⟩), gm_1 64 rfl rfl, gm_1 4 rfl rfl, gm_1 65 rfl rfl, rfl, by decide +kernel⟩
theorem nwX10_13 : mNw RX10 13 8 := ⟨by decide, RX8, TX8, 16, tyX8, rfl, inX8, tyX8_ok, gm_1 32 rfl rfl, gm_1 33 rfl rfl, gm_1 2 rfl rfl, by decide, by decide +kernel⟩
theorem nwX10_23 : mNw RX10 23 5 := ⟨by decide, RX5, TX5, 19, tyX5, rfl, inX5, tyX5_ok, gm_1 161 rfl rfl, gm_1 162 rfl rfl, gm_1 5 rfl rfl, by decide, by decide +kernel⟩
theorem nwX10_32 : mNw RX10 32 0 := ⟨by decide, RX0, TX0, 2, tyX0, rfl, inX0, tyX0_ok, gm_2 37 rfl rfl, gm_2 38 rfl rfl, gm_1 10 rfl rfl, by decide, by decide +kernel⟩
theorem nwX10_39 : mNw RX10 39 4 := ⟨by decide, RX4, TX4, 6, tyX4, rfl, inX4, tyX4_ok, gm_2 52 rfl rfl, gm_2 53 rfl rfl, gm_1 11 rfl rfl, by decide, by decide +kernel⟩
theorem nwX10_48 : mNw RX10 48 3 := ⟨by decide, RX3, TX3, 3, tyX3, rfl, inX3, tyX3_ok, gm_2 175 rfl rfl, gm_2 176 rfl rfl, gm_1 13 rfl rfl, by decide, by decide +kernel⟩
theorem nwX10_55 : mNw RX10 55 2 := ⟨by decide, RX2, TX2, 2, tyX2, rfl, inX2, tyX2_ok, gm_2 191 rfl rfl, gm_2 192 rfl rfl, gm_1 14 rfl rfl, by decide, by decide +kernel⟩
theorem nwX10_62 : mNw RX10 62 6 := ⟨by decide, RX6, TX6, 3, tyX6, rfl, inX6, tyX6_ok, gm_2 205 rfl rfl, gm_2 206 rfl rfl, gm_1 15 rfl rfl, by decide, by decide +kernel⟩
theorem nwX10_69 : mNw RX10 69 9 := ⟨by decide, RX9, TX9, 16, tyX9, rfl, inX9, tyX9_ok, gm_2 224 rfl rfl, gm_2 60 rfl rfl, gm_1 12 rfl rfl, by decide, by decide +kernel⟩
theorem nwX4_18 : mNw RX4 18 9 := ⟨by decide, RX9, TX9, 16, tyX9, rfl, inX9, tyX9_ok, gm_2 58 rfl rfl, gm_2 60 rfl rfl, gm_1 12 rfl rfl, by decide, by decide +kernel⟩
theorem nwX6_9 : mNw RX6 9 7 := ⟨by decide, RX7, TX7, 4, tyX7, rfl, inX7, tyX7_ok, gm_2 211 rfl rfl, gm_1 39 rfl rfl, gm_1 3 rfl rfl, by decide, by decide +kernel⟩
theorem nwX8_19 : mNw RX8 19 7 := ⟨by decide, RX7, TX7, 4, tyX7, rfl, inX7, tyX7_ok, gm_1 38 rfl rfl, gm_1 39 rfl rfl, gm_1 3 rfl rfl, by decide, by decide +kernel⟩
theorem nwX8_40 : mNw RX8 40 1 := ⟨by decide, RX1, TX1, 3, tyX1, rfl, inX1, tyX1_ok, gm_1 60 rfl rfl, gm_1 62 rfl rfl, gm_1 4 rfl rfl, by decide, by decide +kernel⟩
theorem fpX0_15 : mFp RX0 15 0 1 8 (.object "ShadowTwin$Told") := ⟨by decide, rfl, RX0, TX0, 2, tyX0, rfl, by decide, inX0, (Or.inl (gm_2 44 rfl rfl)), tyX0_ok, nmX0, rfl, by decide +kernel⟩
theorem mlX10_86 : mLm RX10 86 8 yX8_clean cX8_clean 2 none 0 := ⟨RX8, TX8, 16, rfl, rfl, (Or.inl (gm_2 226 rfl rfl)), gm_2 227 rfl rfl, gm_2 228 rfl rfl, gm_1 2 rfl rfl, gm_2 229 rfl rfl, by decide +kernel⟩
theorem ic_m5 : Int32.ofInt (-5) = (-5 : Int32) := by decide
theorem bp_26 : (Int8.ofInt 26).toInt32 = (26 : Int32) := by decide
theorem bp_18 : (Int8.ofInt 18).toInt32 = (18 : Int32) := by decide
theorem bp_21 : (Int8.ofInt 21).toInt32 = (21 : Int32) := by decide
theorem bp_22 : (Int8.ofInt 22).toInt32 = (22 : Int32) := by decide
theorem sp_128 : (Int16.ofInt 128).toInt32 = (128 : Int32) := by decide
theorem bp_92 : (Int8.ofInt 92).toInt32 = (92 : Int32) := by decide
def fX7_init (n : Nat) (a0 : Nat) (a1 : Int32) (a2 : Int32) (S : MS) : Option MS := (if decide (n + 1 ≤ 99) = true then (if okA shX (n + 0) 13 (a1 * a2) = true then some (pI (pI (pR (wip S (n + 0)) a0 0 (n + 0)) a0 1 a1) a0 2 a2) else none) else none)
set_option maxRecDepth 100000 in
theorem cX7_init_ok {l : Launch} {G : Gv} {B n : Nat} {S : MS} {a0 : Nat} {a1 : Int32} {a2 : Int32} {q : MS} (la0 : a0 < n) (ka0 : kdX a0 = 7) (hf : fX7_init n a0 a1 a2 S = some q) : MtC l yX7_init cX7_init 3 1 1 1000 G shX B 99 n (n + 1) S [.ref (ad (Lq B 99) a0), .int a1, .int a2] q := by
  unfold fX7_init at hf
  obtain ⟨hz0, hf⟩ := gd hf
  have hnN := of_decide_eq_true hz0
  have hn0 : 0 < n := by omega
  refine mc_enter (lv := [(0, .ref (ad (Lq B 99) a0)), (1, .int a1), (2, .int a2)]) (by decide) rfl (Nat.le_of_ble_eq_true rfl) rfl (by omega) ?_
  intro p e s m below meth c ls C hin hs hW hl
  refine lv_aload_n C.1 C.2.1 dX7_init_0 rfl (lv_at hl 0 rfl) ?_
  refine W.objInit C.1 C.2.1 C.2.2.2.1 (C.2.2.2.2.1 _ (gm_1 43 rfl rfl)) (C.2.2.2.2.1 _ ob_1) (C.2.2.2.2.1 _ ob_2) rfl (hl.1.trans C.2.2.1.symm) rfl dX7_init_1 (Nat.le_of_ble_eq_true rfl) (Nat.le_of_ble_eq_true rfl) ?_
  refine W.eq (g2 := F0 m 4 ls []) rfl ?_
  refine lv_aload_n C.1 C.2.1 dX7_init_4 rfl (lv_at hl 0 rfl) ?_
  refine lv_iload_n C.1 C.2.1 dX7_init_5 rfl (lv_at hl 1 rfl) ?_
  refine lv_iload_n C.1 C.2.1 dX7_init_6 rfl (lv_at hl 2 rfl) ?_
  refine lv_imul C.1 C.2.1 dX7_init_7 ?_
  obtain ⟨hg1, hf⟩ := gd hf
  have hk2 := okA_spec hg1
  refine mc_newarr (kd := 13) (k0 := 1) C hW (by omega) (by decide) (by omega) hk2.1 hk2.2.1 (mcell_i hk2.2.1) rfl rfl (fun _ h => by cases h) (fun _ => by rw [wip_I]; rfl) (gm_1 59 rfl rfl) hk2.2.2.1 hk2.2.2.2.1 hk2.2.2.2.2 (by decide) (Nat.le_of_ble_eq_true rfl) (Nat.le_of_ble_eq_true rfl) dX7_init_8 (fun H hW => ?_)
  refine W.widen (k := 1) (n := 1000) (Nat.le_refl _) (Nat.le_refl _) ?_
  have hW : mWb false G (shn shX (n + 1)) (Lq B 99) (wip S (n + 0)) (mcA shX B 99 n) s H _ := hW
  refine m_putrF C hin hW ⟨(by show a0 < n + 1; omega), ka0⟩ ffX7_9 (by decide) (Or.inr ⟨_, rfl⟩) ⟨(by show (n + 0) < n + 1; omega), hk2.2.1⟩ dX7_init_10 (fun H locs hW => ?_)
  refine lv_aload_n C.1 C.2.1 dX7_init_13 rfl (lv_at hl 0 rfl) ?_
  refine lv_iload_n C.1 C.2.1 dX7_init_14 rfl (lv_at hl 1 rfl) ?_
  refine m_putiF C hin hW ⟨(by show a0 < n + 1; omega), ka0⟩ ffX7_15 dX7_init_15 (fun H locs hW => ?_)
  refine lv_aload_n C.1 C.2.1 dX7_init_18 rfl (lv_at hl 0 rfl) ?_
  refine lv_iload_n C.1 C.2.1 dX7_init_19 rfl (lv_at hl 2 rfl) ?_
  refine m_putiF C hin hW ⟨(by show a0 < n + 1; omega), ka0⟩ ffX7_19 dX7_init_20 (fun H locs hW => ?_)
  cases hf
  exact mc_ret C hW (by omega) (by omega) (okN hnN) dX7_init_23

def fX1_init (n : Nat) (a0 : Nat) (S : MS) : Option MS := (if decide (n + 2 ≤ 99) = true then (if okA shX (n + 0) 13 (64 : Int32) = true then (if okA shX (n + 1) 14 (64 : Int32) = true then some (pR (wip (pR (wip S (n + 0)) a0 0 (n + 0)) (n + 1)) a0 1 (n + 1)) else none) else none) else none)
set_option maxRecDepth 100000 in
theorem cX1_init_ok {l : Launch} {G : Gv} {B n : Nat} {S : MS} {a0 : Nat} {q : MS} (la0 : a0 < n) (ka0 : kdX a0 = 1) (hf : fX1_init n a0 S = some q) : MtC l yX1_init cX1_init 1 1 2 2000 G shX B 99 n (n + 2) S [.ref (ad (Lq B 99) a0)] q := by
  unfold fX1_init at hf
  obtain ⟨hz0, hf⟩ := gd hf
  have hnN := of_decide_eq_true hz0
  have hn0 : 0 < n := by omega
  refine mc_enter (lv := [(0, .ref (ad (Lq B 99) a0))]) (by decide) rfl (Nat.le_of_ble_eq_true rfl) rfl (by omega) ?_
  intro p e s m below meth c ls C hin hs hW hl
  refine lv_aload_n C.1 C.2.1 dX1_init_0 rfl (lv_at hl 0 rfl) ?_
  refine W.objInit C.1 C.2.1 C.2.2.2.1 (C.2.2.2.2.1 _ (gm_1 66 rfl rfl)) (C.2.2.2.2.1 _ ob_1) (C.2.2.2.2.1 _ ob_2) rfl (hl.1.trans C.2.2.1.symm) rfl dX1_init_1 (Nat.le_of_ble_eq_true rfl) (Nat.le_of_ble_eq_true rfl) ?_
  refine W.eq (g2 := F0 m 4 ls []) rfl ?_
  refine lv_aload_n C.1 C.2.1 dX1_init_4 rfl (lv_at hl 0 rfl) ?_
  refine lv_bipush C.1 C.2.1 dX1_init_5 bp_64 ?_
  obtain ⟨hg1, hf⟩ := gd hf
  have hk2 := okA_spec hg1
  refine mc_newarr (kd := 13) (k0 := 1) C hW (by omega) (by decide) (by omega) hk2.1 hk2.2.1 (mcell_i hk2.2.1) rfl rfl (fun _ h => by cases h) (fun _ => by rw [wip_I]; rfl) (gm_1 59 rfl rfl) hk2.2.2.1 hk2.2.2.2.1 hk2.2.2.2.2 (by decide) (Nat.le_of_ble_eq_true rfl) (Nat.le_of_ble_eq_true rfl) dX1_init_7 (fun H hW => ?_)
  refine W.widen (k := 1) (n := 1000) (Nat.le_refl _) (Nat.le_refl _) ?_
  have hW : mWb false G (shn shX (n + 1)) (Lq B 99) (wip S (n + 0)) (mcA shX B 99 n) s H _ := hW
  refine m_putrF C hin hW ⟨(by show a0 < n + 1; omega), ka0⟩ ffX1_11 (by decide) (Or.inr ⟨_, rfl⟩) ⟨(by show (n + 0) < n + 1; omega), hk2.2.1⟩ dX1_init_9 (fun H locs hW => ?_)
  refine lv_aload_n C.1 C.2.1 dX1_init_12 rfl (lv_at hl 0 rfl) ?_
  refine lv_bipush C.1 C.2.1 dX1_init_13 bp_64 ?_
  obtain ⟨hg3, hf⟩ := gd hf
  have hk4 := okA_spec hg3
  refine mc_newarr (kd := 14) (k0 := 2) C hW (by omega) (by decide) (by omega) hk4.1 hk4.2.1 (mcell_j hk4.2.1) rfl rfl (fun _ h => by cases h) (fun _ => by rw [wip_J]; rfl) (gm_1 77 rfl rfl) hk4.2.2.1 hk4.2.2.2.1 hk4.2.2.2.2 (by decide) (Nat.le_of_ble_eq_true rfl) (Nat.le_of_ble_eq_true rfl) dX1_init_15 (fun H hW => ?_)
  refine W.widen (k := 2) (n := 2000) (Nat.le_refl _) (Nat.le_refl _) ?_
  have hW : mWb false G (shn shX (n + 2)) (Lq B 99) (wip (pR (wip S (n + 0)) a0 0 (n + 0)) (n + 1)) (mcA shX B 99 n) s H _ := hW
  refine m_putrF C hin hW ⟨(by show a0 < n + 2; omega), ka0⟩ ffX1_15 (by decide) (Or.inr ⟨_, rfl⟩) ⟨(by show (n + 1) < n + 2; omega), hk4.2.1⟩ dX1_init_17 (fun H locs hW => ?_)
  cases hf
  exact mc_ret C hW (by omega) (by omega) (okN hnN) dX1_init_20

def fX9_init (n : Nat) (a0 : Nat) (S : MS) : Option MS := (if decide (n + 3 ≤ 99) = true then (if okA shX (n + 0) 13 (4 : Int32) = true then (if okA shX (n + 1) 13 (4 : Int32) = true then (if okA shX (n + 2) 13 (4 : Int32) = true then some (pR (wip (pR (wip (pR (wip S (n + 0)) a0 0 (n + 0)) (n + 1)) a0 1 (n + 1)) (n + 2)) a0 2 (n + 2)) else none) else none) else none) else none)
set_option maxRecDepth 100000 in
theorem cX9_init_ok {l : Launch} {G : Gv} {B n : Nat} {S : MS} {a0 : Nat} {q : MS} (la0 : a0 < n) (ka0 : kdX a0 = 9) (hf : fX9_init n a0 S = some q) : MtC l yX9_init cX9_init 1 1 3 3000 G shX B 99 n (n + 3) S [.ref (ad (Lq B 99) a0)] q := by
  unfold fX9_init at hf
  obtain ⟨hz0, hf⟩ := gd hf
  have hnN := of_decide_eq_true hz0
  have hn0 : 0 < n := by omega
  refine mc_enter (lv := [(0, .ref (ad (Lq B 99) a0))]) (by decide) rfl (Nat.le_of_ble_eq_true rfl) rfl (by omega) ?_
  intro p e s m below meth c ls C hin hs hW hl
  refine lv_aload_n C.1 C.2.1 dX9_init_0 rfl (lv_at hl 0 rfl) ?_
  refine W.objInit C.1 C.2.1 C.2.2.2.1 (C.2.2.2.2.1 _ (gm_2 64 rfl rfl)) (C.2.2.2.2.1 _ ob_1) (C.2.2.2.2.1 _ ob_2) rfl (hl.1.trans C.2.2.1.symm) rfl dX9_init_1 (Nat.le_of_ble_eq_true rfl) (Nat.le_of_ble_eq_true rfl) ?_
  refine W.eq (g2 := F0 m 4 ls []) rfl ?_
  refine lv_aload_n C.1 C.2.1 dX9_init_4 rfl (lv_at hl 0 rfl) ?_
  refine lv_iconst C.1 C.2.1 dX9_init_5 ic_4 ?_
  obtain ⟨hg1, hf⟩ := gd hf
  have hk2 := okA_spec hg1
  refine mc_newarr (kd := 13) (k0 := 1) C hW (by omega) (by decide) (by omega) hk2.1 hk2.2.1 (mcell_i hk2.2.1) rfl rfl (fun _ h => by cases h) (fun _ => by rw [wip_I]; rfl) (gm_1 59 rfl rfl) hk2.2.2.1 hk2.2.2.2.1 hk2.2.2.2.2 (by decide) (Nat.le_of_ble_eq_true rfl) (Nat.le_of_ble_eq_true rfl) dX9_init_6 (fun H hW => ?_)
  refine W.widen (k := 1) (n := 1000) (Nat.le_refl _) (Nat.le_refl _) ?_
  have hW : mWb false G (shn shX (n + 1)) (Lq B 99) (wip S (n + 0)) (mcA shX B 99 n) s H _ := hW
  refine m_putrF C hin hW ⟨(by show a0 < n + 1; omega), ka0⟩ ffX9_9 (by decide) (Or.inr ⟨_, rfl⟩) ⟨(by show (n + 0) < n + 1; omega), hk2.2.1⟩ dX9_init_8 (fun H locs hW => ?_)
  refine lv_aload_n C.1 C.2.1 dX9_init_11 rfl (lv_at hl 0 rfl) ?_
  refine lv_iconst C.1 C.2.1 dX9_init_12 ic_4 ?_
  obtain ⟨hg3, hf⟩ := gd hf
  have hk4 := okA_spec hg3
  refine mc_newarr (kd := 13) (k0 := 1) C hW (by omega) (by decide) (by omega) hk4.1 hk4.2.1 (mcell_i hk4.2.1) rfl rfl (fun _ h => by cases h) (fun _ => by rw [wip_I]; rfl) (gm_1 59 rfl rfl) hk4.2.2.1 hk4.2.2.2.1 hk4.2.2.2.2 (by decide) (Nat.le_of_ble_eq_true rfl) (Nat.le_of_ble_eq_true rfl) dX9_init_13 (fun H hW => ?_)
  refine W.widen (k := 2) (n := 2000) (Nat.le_refl _) (Nat.le_refl _) ?_
  have hW : mWb false G (shn shX (n + 2)) (Lq B 99) (wip (pR (wip S (n + 0)) a0 0 (n + 0)) (n + 1)) (mcA shX B 99 n) s H _ := hW
  refine m_putrF C hin hW ⟨(by show a0 < n + 2; omega), ka0⟩ ffX9_15 (by decide) (Or.inr ⟨_, rfl⟩) ⟨(by show (n + 1) < n + 2; omega), hk4.2.1⟩ dX9_init_15 (fun H locs hW => ?_)
  refine lv_aload_n C.1 C.2.1 dX9_init_18 rfl (lv_at hl 0 rfl) ?_
  refine lv_iconst C.1 C.2.1 dX9_init_19 ic_4 ?_
  obtain ⟨hg5, hf⟩ := gd hf
  have hk6 := okA_spec hg5
  refine mc_newarr (kd := 13) (k0 := 1) C hW (by omega) (by decide) (by omega) hk6.1 hk6.2.1 (mcell_i hk6.2.1) rfl rfl (fun _ h => by cases h) (fun _ => by rw [wip_I]; rfl) (gm_1 59 rfl rfl) hk6.2.2.1 hk6.2.2.2.1 hk6.2.2.2.2 (by decide) (Nat.le_of_ble_eq_true rfl) (Nat.le_of_ble_eq_true rfl) dX9_init_20 (fun H hW => ?_)
  refine W.widen (k := 3) (n := 3000) (Nat.le_refl _) (Nat.le_refl _) ?_
  have hW : mWb false G (shn shX (n + 3)) (Lq B 99) (wip (pR (wip (pR (wip S (n + 0)) a0 0 (n + 0)) (n + 1)) a0 1 (n + 1)) (n + 2)) (mcA shX B 99 n) s H _ := hW
  refine m_putrF C hin hW ⟨(by show a0 < n + 3; omega), ka0⟩ ffX9_18 (by decide) (Or.inr ⟨_, rfl⟩) ⟨(by show (n + 2) < n + 3; omega), hk6.2.1⟩ dX9_init_22 (fun H locs hW => ?_)
  cases hf
  exact mc_ret C hW (by omega) (by omega) (okN hnN) dX9_init_25

def fX2_init (n : Nat) (a0 : Nat) (S : MS) : Option MS := (if decide (n + 1 ≤ 99) = true then (if okA shX (n + 0) 13 (100 : Int32) = true then some (pR (wip S (n + 0)) a0 0 (n + 0)) else none) else none)
set_option maxRecDepth 100000 in
theorem cX2_init_ok {l : Launch} {G : Gv} {B n : Nat} {S : MS} {a0 : Nat} {q : MS} (la0 : a0 < n) (ka0 : kdX a0 = 2) (hf : fX2_init n a0 S = some q) : MtC l yX2_init cX2_init 1 1 1 1000 G shX B 99 n (n + 1) S [.ref (ad (Lq B 99) a0)] q := by
  unfold fX2_init at hf
  obtain ⟨hz0, hf⟩ := gd hf
  have hnN := of_decide_eq_true hz0
  have hn0 : 0 < n := by omega
  refine mc_enter (lv := [(0, .ref (ad (Lq B 99) a0))]) (by decide) rfl (Nat.le_of_ble_eq_true rfl) rfl (by omega) ?_
  intro p e s m below meth c ls C hin hs hW hl
  refine lv_aload_n C.1 C.2.1 dX2_init_0 rfl (lv_at hl 0 rfl) ?_
  refine W.objInit C.1 C.2.1 C.2.2.2.1 (C.2.2.2.2.1 _ (gm_2 196 rfl rfl)) (C.2.2.2.2.1 _ ob_1) (C.2.2.2.2.1 _ ob_2) rfl (hl.1.trans C.2.2.1.symm) rfl dX2_init_1 (Nat.le_of_ble_eq_true rfl) (Nat.le_of_ble_eq_true rfl) ?_
  refine W.eq (g2 := F0 m 4 ls []) rfl ?_
  refine lv_aload_n C.1 C.2.1 dX2_init_4 rfl (lv_at hl 0 rfl) ?_
  refine lv_bipush C.1 C.2.1 dX2_init_5 bp_100 ?_
  obtain ⟨hg1, hf⟩ := gd hf
  have hk2 := okA_spec hg1
  refine mc_newarr (kd := 13) (k0 := 1) C hW (by omega) (by decide) (by omega) hk2.1 hk2.2.1 (mcell_i hk2.2.1) rfl rfl (fun _ h => by cases h) (fun _ => by rw [wip_I]; rfl) (gm_1 59 rfl rfl) hk2.2.2.1 hk2.2.2.2.1 hk2.2.2.2.2 (by decide) (Nat.le_of_ble_eq_true rfl) (Nat.le_of_ble_eq_true rfl) dX2_init_7 (fun H hW => ?_)
  refine W.widen (k := 1) (n := 1000) (Nat.le_refl _) (Nat.le_refl _) ?_
  have hW : mWb false G (shn shX (n + 1)) (Lq B 99) (wip S (n + 0)) (mcA shX B 99 n) s H _ := hW
  refine m_putrF C hin hW ⟨(by show a0 < n + 1; omega), ka0⟩ ffX2_11 (by decide) (Or.inr ⟨_, rfl⟩) ⟨(by show (n + 0) < n + 1; omega), hk2.2.1⟩ dX2_init_9 (fun H locs hW => ?_)
  cases hf
  exact mc_ret C hW (by omega) (by omega) (okN hnN) dX2_init_12

def fX3_init (n : Nat) (a0 : Nat) (S : MS) : Option MS := (if decide (n + 2 ≤ 99) = true then (if okA shX (n + 0) 13 (64 : Int32) = true then (if okA shX (n + 1) 13 (64 : Int32) = true then some (pR (wip (pR (wip S (n + 0)) a0 0 (n + 0)) (n + 1)) a0 1 (n + 1)) else none) else none) else none)
set_option maxRecDepth 100000 in
theorem cX3_init_ok {l : Launch} {G : Gv} {B n : Nat} {S : MS} {a0 : Nat} {q : MS} (la0 : a0 < n) (ka0 : kdX a0 = 3) (hf : fX3_init n a0 S = some q) : MtC l yX3_init cX3_init 1 1 2 2000 G shX B 99 n (n + 2) S [.ref (ad (Lq B 99) a0)] q := by
  unfold fX3_init at hf
  obtain ⟨hz0, hf⟩ := gd hf
  have hnN := of_decide_eq_true hz0
  have hn0 : 0 < n := by omega
  refine mc_enter (lv := [(0, .ref (ad (Lq B 99) a0))]) (by decide) rfl (Nat.le_of_ble_eq_true rfl) rfl (by omega) ?_
  intro p e s m below meth c ls C hin hs hW hl
  refine lv_aload_n C.1 C.2.1 dX3_init_0 rfl (lv_at hl 0 rfl) ?_
  refine W.objInit C.1 C.2.1 C.2.2.2.1 (C.2.2.2.2.1 _ (gm_2 180 rfl rfl)) (C.2.2.2.2.1 _ ob_1) (C.2.2.2.2.1 _ ob_2) rfl (hl.1.trans C.2.2.1.symm) rfl dX3_init_1 (Nat.le_of_ble_eq_true rfl) (Nat.le_of_ble_eq_true rfl) ?_
  refine W.eq (g2 := F0 m 4 ls []) rfl ?_
  refine lv_aload_n C.1 C.2.1 dX3_init_4 rfl (lv_at hl 0 rfl) ?_
  refine lv_bipush C.1 C.2.1 dX3_init_5 bp_64 ?_
  obtain ⟨hg1, hf⟩ := gd hf
  have hk2 := okA_spec hg1
  refine mc_newarr (kd := 13) (k0 := 1) C hW (by omega) (by decide) (by omega) hk2.1 hk2.2.1 (mcell_i hk2.2.1) rfl rfl (fun _ h => by cases h) (fun _ => by rw [wip_I]; rfl) (gm_1 59 rfl rfl) hk2.2.2.1 hk2.2.2.2.1 hk2.2.2.2.2 (by decide) (Nat.le_of_ble_eq_true rfl) (Nat.le_of_ble_eq_true rfl) dX3_init_7 (fun H hW => ?_)
  refine W.widen (k := 1) (n := 1000) (Nat.le_refl _) (Nat.le_refl _) ?_
  have hW : mWb false G (shn shX (n + 1)) (Lq B 99) (wip S (n + 0)) (mcA shX B 99 n) s H _ := hW
  refine m_putrF C hin hW ⟨(by show a0 < n + 1; omega), ka0⟩ ffX3_9 (by decide) (Or.inr ⟨_, rfl⟩) ⟨(by show (n + 0) < n + 1; omega), hk2.2.1⟩ dX3_init_9 (fun H locs hW => ?_)
  refine lv_aload_n C.1 C.2.1 dX3_init_12 rfl (lv_at hl 0 rfl) ?_
  refine lv_bipush C.1 C.2.1 dX3_init_13 bp_64 ?_
  obtain ⟨hg3, hf⟩ := gd hf
  have hk4 := okA_spec hg3
  refine mc_newarr (kd := 13) (k0 := 1) C hW (by omega) (by decide) (by omega) hk4.1 hk4.2.1 (mcell_i hk4.2.1) rfl rfl (fun _ h => by cases h) (fun _ => by rw [wip_I]; rfl) (gm_1 59 rfl rfl) hk4.2.2.1 hk4.2.2.2.1 hk4.2.2.2.2 (by decide) (Nat.le_of_ble_eq_true rfl) (Nat.le_of_ble_eq_true rfl) dX3_init_15 (fun H hW => ?_)
  refine W.widen (k := 2) (n := 2000) (Nat.le_refl _) (Nat.le_refl _) ?_
  have hW : mWb false G (shn shX (n + 2)) (Lq B 99) (wip (pR (wip S (n + 0)) a0 0 (n + 0)) (n + 1)) (mcA shX B 99 n) s H _ := hW
  refine m_putrF C hin hW ⟨(by show a0 < n + 2; omega), ka0⟩ ffX3_15 (by decide) (Or.inr ⟨_, rfl⟩) ⟨(by show (n + 1) < n + 2; omega), hk4.2.1⟩ dX3_init_17 (fun H locs hW => ?_)
  cases hf
  exact mc_ret C hW (by omega) (by omega) (okN hnN) dX3_init_20

def fX0_init (n : Nat) (a0 : Nat) (a1 : Nat) (S : MS) : Option MS := (if decide (n + 1 ≤ 99) = true then (if okA shX (n + 0) 13 (7 : Int32) = true then some (pR (pR (wip S (n + 0)) a0 0 (n + 0)) a0 1 a1) else none) else none)
set_option maxRecDepth 100000 in
theorem cX0_init_ok {l : Launch} {G : Gv} {B n : Nat} {S : MS} {a0 : Nat} {a1 : Nat} {q : MS} (la0 : a0 < n) (ka0 : kdX a0 = 0) (la1 : a1 < n) (ka1 : kdX a1 = 8) (hf : fX0_init n a0 a1 S = some q) : MtC l yX0_init cX0_init 2 1 1 1000 G shX B 99 n (n + 1) S [.ref (ad (Lq B 99) a0), .ref (ad (Lq B 99) a1)] q := by
  unfold fX0_init at hf
  obtain ⟨hz0, hf⟩ := gd hf
  have hnN := of_decide_eq_true hz0
  have hn0 : 0 < n := by omega
  refine mc_enter (lv := [(0, .ref (ad (Lq B 99) a0)), (1, .ref (ad (Lq B 99) a1))]) (by decide) rfl (Nat.le_of_ble_eq_true rfl) rfl (by omega) ?_
  intro p e s m below meth c ls C hin hs hW hl
  refine lv_aload_n C.1 C.2.1 dX0_init_0 rfl (lv_at hl 0 rfl) ?_
  refine W.objInit C.1 C.2.1 C.2.2.2.1 (C.2.2.2.2.1 _ (gm_2 42 rfl rfl)) (C.2.2.2.2.1 _ ob_1) (C.2.2.2.2.1 _ ob_2) rfl (hl.1.trans C.2.2.1.symm) rfl dX0_init_1 (Nat.le_of_ble_eq_true rfl) (Nat.le_of_ble_eq_true rfl) ?_
  refine W.eq (g2 := F0 m 4 ls []) rfl ?_
  refine lv_aload_n C.1 C.2.1 dX0_init_4 rfl (lv_at hl 0 rfl) ?_
  refine lv_bipush C.1 C.2.1 dX0_init_5 bp_7 ?_
  obtain ⟨hg1, hf⟩ := gd hf
  have hk2 := okA_spec hg1
  refine mc_newarr (kd := 13) (k0 := 1) C hW (by omega) (by decide) (by omega) hk2.1 hk2.2.1 (mcell_i hk2.2.1) rfl rfl (fun _ h => by cases h) (fun _ => by rw [wip_I]; rfl) (gm_1 59 rfl rfl) hk2.2.2.1 hk2.2.2.2.1 hk2.2.2.2.2 (by decide) (Nat.le_of_ble_eq_true rfl) (Nat.le_of_ble_eq_true rfl) dX0_init_7 (fun H hW => ?_)
  refine W.widen (k := 1) (n := 1000) (Nat.le_refl _) (Nat.le_refl _) ?_
  have hW : mWb false G (shn shX (n + 1)) (Lq B 99) (wip S (n + 0)) (mcA shX B 99 n) s H _ := hW
  refine m_putrF C hin hW ⟨(by show a0 < n + 1; omega), ka0⟩ ffX0_11 (by decide) (Or.inr ⟨_, rfl⟩) ⟨(by show (n + 0) < n + 1; omega), hk2.2.1⟩ dX0_init_9 (fun H locs hW => ?_)
  refine lv_aload_n C.1 C.2.1 dX0_init_12 rfl (lv_at hl 0 rfl) ?_
  refine lv_aload_n C.1 C.2.1 dX0_init_13 rfl (lv_at hl 1 rfl) ?_
  refine m_putr C hW ⟨(by show a0 < n + 1; omega), ka0⟩ fpX0_15 (by decide) (Or.inl ⟨_, rfl⟩) ⟨(by show a1 < n + 1; omega), ka1⟩ dX0_init_14 (fun H locs hW => ?_)
  cases hf
  exact mc_ret C hW (by omega) (by omega) (okN hnN) dX0_init_17

def fX6_init (n : Nat) (a0 : Nat) (S : MS) : Option MS := (if decide (n + 3 ≤ 99) = true then (if okO shX (n + 0) 7 = true then (fX7_init (n + 1) (n + 0) (24 : Int32) (5 : Int32) (wip S (n + 0))).bind fun q3 => (if okA shX (n + 2) 15 (24 : Int32) = true then some (pR (wip (pR q3 a0 0 (n + 0)) (n + 2)) a0 1 (n + 2)) else none) else none) else none)
set_option maxRecDepth 100000 in
theorem cX6_init_ok {l : Launch} {G : Gv} {B n : Nat} {S : MS} {a0 : Nat} {q : MS} (la0 : a0 < n) (ka0 : kdX a0 = 6) (hf : fX6_init n a0 S = some q) : MtC l yX6_init cX6_init 1 2 3 2100 G shX B 99 n (n + 3) S [.ref (ad (Lq B 99) a0)] q := by
  unfold fX6_init at hf
  obtain ⟨hz0, hf⟩ := gd hf
  have hnN := of_decide_eq_true hz0
  have hn0 : 0 < n := by omega
  refine mc_enter (lv := [(0, .ref (ad (Lq B 99) a0))]) (by decide) rfl (Nat.le_of_ble_eq_true rfl) rfl (by omega) ?_
  intro p e s m below meth c ls C hin hs hW hl
  refine lv_aload_n C.1 C.2.1 dX6_init_0 rfl (lv_at hl 0 rfl) ?_
  refine W.objInit C.1 C.2.1 C.2.2.2.1 (C.2.2.2.2.1 _ (gm_2 210 rfl rfl)) (C.2.2.2.2.1 _ ob_1) (C.2.2.2.2.1 _ ob_2) rfl (hl.1.trans C.2.2.1.symm) rfl dX6_init_1 (Nat.le_of_ble_eq_true rfl) (Nat.le_of_ble_eq_true rfl) ?_
  refine W.eq (g2 := F0 m 4 ls []) rfl ?_
  refine lv_aload_n C.1 C.2.1 dX6_init_4 rfl (lv_at hl 0 rfl) ?_
  obtain ⟨hg1, hf⟩ := gd hf
  have hk2 := okO_spec hg1
  refine mc_new (ci := 7) C hW (by omega) (by decide) (by omega) hk2.1 hk2.2 nwX6_9 (Nat.le_of_ble_eq_true rfl) (Nat.le_of_ble_eq_true rfl) dX6_init_5 (fun H hW => ?_)
  refine W.widen (k := 1) (n := 100) (Nat.le_refl _) (Nat.le_refl _) ?_
  have hW : mWb false G (shn shX (n + 1)) (Lq B 99) (wip S (n + 0)) (mcA shX B 99 n) s H _ := hW
  refine lv_dup C.1 C.2.1 dX6_init_8 rfl ?_
  refine lv_bipush C.1 C.2.1 dX6_init_9 bp_24 ?_
  refine lv_iconst C.1 C.2.1 dX6_init_11 ic_5 ?_
  obtain ⟨q3, h4, hf⟩ := bd hf
  refine mc_callI (n' := n + 2) (As := [.int (24 : Int32), .int (5 : Int32)]) (rest := [.ref (ad (Lq B 99) (n + 0)), .ref (ad (Lq B 99) a0)]) C hW (by omega) (by omega) (okN hnN) (okN hnN) (cX7_init_ok (by omega) hk2.2 h4) liX6_11 rfl hl.1 rfl (Nat.le_of_ble_eq_true rfl) (Nat.le_of_ble_eq_true rfl) (Nat.le_of_ble_eq_true rfl) (Nat.le_of_ble_eq_true rfl) (Nat.le_of_ble_eq_true rfl) dX6_init_12 (fun H locs hW => ?_)
  refine W.widen (k := 2) (n := 1100) (Nat.le_refl _) (Nat.le_refl _) ?_
  have hW : mWb false G (shn shX (n + 2)) (Lq B 99) q3 (mcA shX B 99 n) s H _ := hW
  refine m_putrF C hin hW ⟨(by show a0 < n + 2; omega), ka0⟩ ffX6_14 (by decide) (Or.inl ⟨_, rfl⟩) ⟨(by show (n + 0) < n + 2; omega), hk2.2⟩ dX6_init_15 (fun H locs hW => ?_)
  refine lv_aload_n C.1 C.2.1 dX6_init_18 rfl (lv_at hl 0 rfl) ?_
  refine lv_bipush C.1 C.2.1 dX6_init_19 bp_24 ?_
  obtain ⟨hg5, hf⟩ := gd hf
  have hk6 := okA_spec hg5
  refine mc_newarr (kd := 15) (k0 := 3) C hW (by omega) (by decide) (by omega) hk6.1 hk6.2.1 (mcell_z hk6.2.1) rfl rfl (fun _ h => by cases h) (fun _ => by rw [wip_I]; rfl) (gm_1 58 rfl rfl) hk6.2.2.1 hk6.2.2.2.1 hk6.2.2.2.2 (by decide) (Nat.le_of_ble_eq_true rfl) (Nat.le_of_ble_eq_true rfl) dX6_init_21 (fun H hW => ?_)
  refine W.widen (k := 3) (n := 2100) (Nat.le_refl _) (Nat.le_refl _) ?_
  have hW : mWb false G (shn shX (n + 3)) (Lq B 99) (wip (pR q3 a0 0 (n + 0)) (n + 2)) (mcA shX B 99 n) s H _ := hW
  refine m_putrF C hin hW ⟨(by show a0 < n + 3; omega), ka0⟩ ffX6_20 (by decide) (Or.inr ⟨_, rfl⟩) ⟨(by show (n + 2) < n + 3; omega), hk6.2.1⟩ dX6_init_23 (fun H locs hW => ?_)
  cases hf
  exact mc_ret C hW (by omega) (by omega) (okN hnN) dX6_init_26

def fX8_init (n : Nat) (a0 : Nat) (S : MS) : Option MS := (if decide (n + 22 ≤ 99) = true then (if okA shX (n + 0) 15 (64 : Int32) = true then (if okA shX (n + 1) 13 (24 : Int32) = true then (if okO shX (n + 2) 7 = true then (fX7_init (n + 3) (n + 2) (6 : Int32) (3 : Int32) (wip (pR (wip (pR (wip S (n + 0)) a0 0 (n + 0)) (n + 1)) a0 1 (n + 1)) (n + 2))).bind fun q7 => (if okO shX (n + 4) 7 = true then (fX7_init (n + 5) (n + 4) (4 : Int32) (4 : Int32) (wip (pR q7 a0 2 (n + 2)) (n + 4))).bind fun q11 => (if okO shX (n + 6) 7 = true then (fX7_init (n + 7) (n + 6) (12 : Int32) (2 : Int32) (wip (pR q11 a0 3 (n + 4)) (n + 6))).bind fun q15 => (if okO shX (n + 8) 7 = true then (fX7_init (n + 9) (n + 8) (8 : Int32) (5 : Int32) (wip (pR q15 a0 4 (n + 6)) (n + 8))).bind fun q19 => (if okO shX (n + 10) 7 = true then (fX7_init (n + 11) (n + 10) (4 : Int32) (3 : Int32) (wip (pR q19 a0 5 (n + 8)) (n + 10))).bind fun q23 => (if okA shX (n + 12) 16 (3 : Int32) = true then (if okO shX (n + 13) 1 = true then (fX1_init (n + 14) (n + 13) (wip (wip (pR q23 a0 6 (n + 10)) (n + 12)) (n + 13))).bind fun q29 => (if bnd (0 : Int32) (lnX (n + 12)) = true then (if okO shX (n + 16) 1 = true then (fX1_init (n + 17) (n + 16) (wip (pR q29 (n + 12) ((0 : Int32).toNatClampNeg) (n + 13)) (n + 16))).bind fun q34 => (if bnd (1 : Int32) (lnX (n + 12)) = true then (if okO shX (n + 19) 1 = true then (fX1_init (n + 20) (n + 19) (wip (pR q34 (n + 12) ((1 : Int32).toNatClampNeg) (n + 16)) (n + 19))).bind fun q39 => (if bnd (2 : Int32) (lnX (n + 12)) = true then some (pR (pR q39 (n + 12) ((2 : Int32).toNatClampNeg) (n + 19)) a0 7 (n + 12)) else none) else none) else none) else none) else none) else none) else none) else none) else none) else none) else none) else none) else none) else none) else none)
set_option maxRecDepth 100000 in
theorem cX8_init_ok {l : Launch} {G : Gv} {B n : Nat} {S : MS} {a0 : Nat} {q : MS} (la0 : a0 < n) (ka0 : kdX a0 = 8) (hf : fX8_init n a0 S = some q) : MtC l yX8_init cX8_init 1 2 22 14800 G shX B 99 n (n + 22) S [.ref (ad (Lq B 99) a0)] q := by
  unfold fX8_init at hf
  obtain ⟨hz0, hf⟩ := gd hf
  have hnN := of_decide_eq_true hz0
  have hn0 : 0 < n := by omega
  refine mc_enter (lv := [(0, .ref (ad (Lq B 99) a0))]) (by decide) rfl (Nat.le_of_ble_eq_true rfl) rfl (by omega) ?_
  intro p e s m below meth c ls C hin hs hW hl
  refine lv_aload_n C.1 C.2.1 dX8_init_0 rfl (lv_at hl 0 rfl) ?_
  refine W.objInit C.1 C.2.1 C.2.2.2.1 (C.2.2.2.2.1 _ (gm_1 37 rfl rfl)) (C.2.2.2.2.1 _ ob_1) (C.2.2.2.2.1 _ ob_2) rfl (hl.1.trans C.2.2.1.symm) rfl dX8_init_1 (Nat.le_of_ble_eq_true rfl) (Nat.le_of_ble_eq_true rfl) ?_
  refine W.eq (g2 := F0 m 4 ls []) rfl ?_
  refine lv_aload_n C.1 C.2.1 dX8_init_4 rfl (lv_at hl 0 rfl) ?_
  refine lv_bipush C.1 C.2.1 dX8_init_5 bp_64 ?_
  obtain ⟨hg1, hf⟩ := gd hf
  have hk2 := okA_spec hg1
  refine mc_newarr (kd := 15) (k0 := 3) C hW (by omega) (by decide) (by omega) hk2.1 hk2.2.1 (mcell_z hk2.2.1) rfl rfl (fun _ h => by cases h) (fun _ => by rw [wip_I]; rfl) (gm_1 58 rfl rfl) hk2.2.2.1 hk2.2.2.2.1 hk2.2.2.2.2 (by decide) (Nat.le_of_ble_eq_true rfl) (Nat.le_of_ble_eq_true rfl) dX8_init_7 (fun H hW => ?_)
  refine W.widen (k := 1) (n := 1000) (Nat.le_refl _) (Nat.le_refl _) ?_
  have hW : mWb false G (shn shX (n + 1)) (Lq B 99) (wip S (n + 0)) (mcA shX B 99 n) s H _ := hW
  refine m_putrF C hin hW ⟨(by show a0 < n + 1; omega), ka0⟩ ffX8_9 (by decide) (Or.inr ⟨_, rfl⟩) ⟨(by show (n + 0) < n + 1; omega), hk2.2.1⟩ dX8_init_9 (fun H locs hW => ?_)
  refine lv_aload_n C.1 C.2.1 dX8_init_12 rfl (lv_at hl 0 rfl) ?_
  refine lv_bipush C.1 C.2.1 dX8_init_13 bp_24 ?_
  obtain ⟨hg3, hf⟩ := gd hf
  have hk4 := okA_spec hg3
  refine mc_newarr (kd := 13) (k0 := 1) C hW (by omega) (by decide) (by omega) hk4.1 hk4.2.1 (mcell_i hk4.2.1) rfl rfl (fun _ h => by cases h) (fun _ => by rw [wip_I]; rfl) (gm_1 59 rfl rfl) hk4.2.2.1 hk4.2.2.2.1 hk4.2.2.2.2 (by decide) (Nat.le_of_ble_eq_true rfl) (Nat.le_of_ble_eq_true rfl) dX8_init_15 (fun H hW => ?_)
  refine W.widen (k := 2) (n := 2000) (Nat.le_refl _) (Nat.le_refl _) ?_
  have hW : mWb false G (shn shX (n + 2)) (Lq B 99) (wip (pR (wip S (n + 0)) a0 0 (n + 0)) (n + 1)) (mcA shX B 99 n) s H _ := hW
  refine m_putrF C hin hW ⟨(by show a0 < n + 2; omega), ka0⟩ ffX8_15 (by decide) (Or.inr ⟨_, rfl⟩) ⟨(by show (n + 1) < n + 2; omega), hk4.2.1⟩ dX8_init_17 (fun H locs hW => ?_)
  refine lv_aload_n C.1 C.2.1 dX8_init_20 rfl (lv_at hl 0 rfl) ?_
  obtain ⟨hg5, hf⟩ := gd hf
  have hk6 := okO_spec hg5
  refine mc_new (ci := 7) C hW (by omega) (by decide) (by omega) hk6.1 hk6.2 nwX8_19 (Nat.le_of_ble_eq_true rfl) (Nat.le_of_ble_eq_true rfl) dX8_init_21 (fun H hW => ?_)
  refine W.widen (k := 3) (n := 2100) (Nat.le_refl _) (Nat.le_refl _) ?_
  have hW : mWb false G (shn shX (n + 3)) (Lq B 99) (wip (pR (wip (pR (wip S (n + 0)) a0 0 (n + 0)) (n + 1)) a0 1 (n + 1)) (n + 2)) (mcA shX B 99 n) s H _ := hW
  refine lv_dup C.1 C.2.1 dX8_init_24 rfl ?_
  refine lv_bipush C.1 C.2.1 dX8_init_25 bp_6 ?_
  refine lv_iconst C.1 C.2.1 dX8_init_27 ic_3 ?_
  obtain ⟨q7, h8, hf⟩ := bd hf
  refine mc_callI (n' := n + 4) (As := [.int (6 : Int32), .int (3 : Int32)]) (rest := [.ref (ad (Lq B 99) (n + 2)), .ref (ad (Lq B 99) a0)]) C hW (by omega) (by omega) (okN hnN) (okN hnN) (cX7_init_ok (by omega) hk6.2 h8) liX8_21 rfl hl.1 rfl (Nat.le_of_ble_eq_true rfl) (Nat.le_of_ble_eq_true rfl) (Nat.le_of_ble_eq_true rfl) (Nat.le_of_ble_eq_true rfl) (Nat.le_of_ble_eq_true rfl) dX8_init_28 (fun H locs hW => ?_)
  refine W.widen (k := 4) (n := 3100) (Nat.le_refl _) (Nat.le_refl _) ?_
  have hW : mWb false G (shn shX (n + 4)) (Lq B 99) q7 (mcA shX B 99 n) s H _ := hW
  refine m_putrF C hin hW ⟨(by show a0 < n + 4; omega), ka0⟩ ffX8_24 (by decide) (Or.inl ⟨_, rfl⟩) ⟨(by show (n + 2) < n + 4; omega), hk6.2⟩ dX8_init_31 (fun H locs hW => ?_)
  refine lv_aload_n C.1 C.2.1 dX8_init_34 rfl (lv_at hl 0 rfl) ?_
  obtain ⟨hg9, hf⟩ := gd hf
  have hk10 := okO_spec hg9
  refine mc_new (ci := 7) C hW (by omega) (by decide) (by omega) hk10.1 hk10.2 nwX8_19 (Nat.le_of_ble_eq_true rfl) (Nat.le_of_ble_eq_true rfl) dX8_init_35 (fun H hW => ?_)
  refine W.widen (k := 5) (n := 3200) (Nat.le_refl _) (Nat.le_refl _) ?_
  have hW : mWb false G (shn shX (n + 5)) (Lq B 99) (wip (pR q7 a0 2 (n + 2)) (n + 4)) (mcA shX B 99 n) s H _ := hW
  refine lv_dup C.1 C.2.1 dX8_init_38 rfl ?_
  refine lv_iconst C.1 C.2.1 dX8_init_39 ic_4 ?_
  refine lv_iconst C.1 C.2.1 dX8_init_40 ic_4 ?_
  obtain ⟨q11, h12, hf⟩ := bd hf
  refine mc_callI (n' := n + 6) (As := [.int (4 : Int32), .int (4 : Int32)]) (rest := [.ref (ad (Lq B 99) (n + 4)), .ref (ad (Lq B 99) a0)]) C hW (by omega) (by omega) (okN hnN) (okN hnN) (cX7_init_ok (by omega) hk10.2 h12) liX8_21 rfl hl.1 rfl (Nat.le_of_ble_eq_true rfl) (Nat.le_of_ble_eq_true rfl) (Nat.le_of_ble_eq_true rfl) (Nat.le_of_ble_eq_true rfl) (Nat.le_of_ble_eq_true rfl) dX8_init_41 (fun H locs hW => ?_)
  refine W.widen (k := 6) (n := 4200) (Nat.le_refl _) (Nat.le_refl _) ?_
  have hW : mWb false G (shn shX (n + 6)) (Lq B 99) q11 (mcA shX B 99 n) s H _ := hW
  refine m_putrF C hin hW ⟨(by show a0 < n + 6; omega), ka0⟩ ffX8_28 (by decide) (Or.inl ⟨_, rfl⟩) ⟨(by show (n + 4) < n + 6; omega), hk10.2⟩ dX8_init_44 (fun H locs hW => ?_)
  refine lv_aload_n C.1 C.2.1 dX8_init_47 rfl (lv_at hl 0 rfl) ?_
  obtain ⟨hg13, hf⟩ := gd hf
  have hk14 := okO_spec hg13
  refine mc_new (ci := 7) C hW (by omega) (by decide) (by omega) hk14.1 hk14.2 nwX8_19 (Nat.le_of_ble_eq_true rfl) (Nat.le_of_ble_eq_true rfl) dX8_init_48 (fun H hW => ?_)
  refine W.widen (k := 7) (n := 4300) (Nat.le_refl _) (Nat.le_refl _) ?_
  have hW : mWb false G (shn shX (n + 7)) (Lq B 99) (wip (pR q11 a0 3 (n + 4)) (n + 6)) (mcA shX B 99 n) s H _ := hW
  refine lv_dup C.1 C.2.1 dX8_init_51 rfl ?_
  refine lv_bipush C.1 C.2.1 dX8_init_52 bp_12 ?_
  refine lv_iconst C.1 C.2.1 dX8_init_54 ic_2 ?_
  obtain ⟨q15, h16, hf⟩ := bd hf
  refine mc_callI (n' := n + 8) (As := [.int (12 : Int32), .int (2 : Int32)]) (rest := [.ref (ad (Lq B 99) (n + 6)), .ref (ad (Lq B 99) a0)]) C hW (by omega) (by omega) (okN hnN) (okN hnN) (cX7_init_ok (by omega) hk14.2 h16) liX8_21 rfl hl.1 rfl (Nat.le_of_ble_eq_true rfl) (Nat.le_of_ble_eq_true rfl) (Nat.le_of_ble_eq_true rfl) (Nat.le_of_ble_eq_true rfl) (Nat.le_of_ble_eq_true rfl) dX8_init_55 (fun H locs hW => ?_)
  refine W.widen (k := 8) (n := 5300) (Nat.le_refl _) (Nat.le_refl _) ?_
  have hW : mWb false G (shn shX (n + 8)) (Lq B 99) q15 (mcA shX B 99 n) s H _ := hW
  refine m_putrF C hin hW ⟨(by show a0 < n + 8; omega), ka0⟩ ffX8_31 (by decide) (Or.inl ⟨_, rfl⟩) ⟨(by show (n + 6) < n + 8; omega), hk14.2⟩ dX8_init_58 (fun H locs hW => ?_)
  refine lv_aload_n C.1 C.2.1 dX8_init_61 rfl (lv_at hl 0 rfl) ?_
  obtain ⟨hg17, hf⟩ := gd hf
  have hk18 := okO_spec hg17
  refine mc_new (ci := 7) C hW (by omega) (by decide) (by omega) hk18.1 hk18.2 nwX8_19 (Nat.le_of_ble_eq_true rfl) (Nat.le_of_ble_eq_true rfl) dX8_init_62 (fun H hW => ?_)
  refine W.widen (k := 9) (n := 5400) (Nat.le_refl _) (Nat.le_refl _) ?_
  have hW : mWb false G (shn shX (n + 9)) (Lq B 99) (wip (pR q15 a0 4 (n + 6)) (n + 8)) (mcA shX B 99 n) s H _ := hW
  refine lv_dup C.1 C.2.1 dX8_init_65 rfl ?_
  refine lv_bipush C.1 C.2.1 dX8_init_66 bp_8 ?_
  refine lv_iconst C.1 C.2.1 dX8_init_68 ic_5 ?_
  obtain ⟨q19, h20, hf⟩ := bd hf
  refine mc_callI (n' := n + 10) (As := [.int (8 : Int32), .int (5 : Int32)]) (rest := [.ref (ad (Lq B 99) (n + 8)), .ref (ad (Lq B 99) a0)]) C hW (by omega) (by omega) (okN hnN) (okN hnN) (cX7_init_ok (by omega) hk18.2 h20) liX8_21 rfl hl.1 rfl (Nat.le_of_ble_eq_true rfl) (Nat.le_of_ble_eq_true rfl) (Nat.le_of_ble_eq_true rfl) (Nat.le_of_ble_eq_true rfl) (Nat.le_of_ble_eq_true rfl) dX8_init_69 (fun H locs hW => ?_)
  refine W.widen (k := 10) (n := 6400) (Nat.le_refl _) (Nat.le_refl _) ?_
  have hW : mWb false G (shn shX (n + 10)) (Lq B 99) q19 (mcA shX B 99 n) s H _ := hW
  refine m_putrF C hin hW ⟨(by show a0 < n + 10; omega), ka0⟩ ffX8_34 (by decide) (Or.inl ⟨_, rfl⟩) ⟨(by show (n + 8) < n + 10; omega), hk18.2⟩ dX8_init_72 (fun H locs hW => ?_)
  refine lv_aload_n C.1 C.2.1 dX8_init_75 rfl (lv_at hl 0 rfl) ?_
  obtain ⟨hg21, hf⟩ := gd hf
  have hk22 := okO_spec hg21
  refine mc_new (ci := 7) C hW (by omega) (by decide) (by omega) hk22.1 hk22.2 nwX8_19 (Nat.le_of_ble_eq_true rfl) (Nat.le_of_ble_eq_true rfl) dX8_init_76 (fun H hW => ?_)
  refine W.widen (k := 11) (n := 6500) (Nat.le_refl _) (Nat.le_refl _) ?_
  have hW : mWb false G (shn shX (n + 11)) (Lq B 99) (wip (pR q19 a0 5 (n + 8)) (n + 10)) (mcA shX B 99 n) s H _ := hW
  refine lv_dup C.1 C.2.1 dX8_init_79 rfl ?_
  refine lv_iconst C.1 C.2.1 dX8_init_80 ic_4 ?_
  refine lv_iconst C.1 C.2.1 dX8_init_81 ic_3 ?_
  obtain ⟨q23, h24, hf⟩ := bd hf
  refine mc_callI (n' := n + 12) (As := [.int (4 : Int32), .int (3 : Int32)]) (rest := [.ref (ad (Lq B 99) (n + 10)), .ref (ad (Lq B 99) a0)]) C hW (by omega) (by omega) (okN hnN) (okN hnN) (cX7_init_ok (by omega) hk22.2 h24) liX8_21 rfl hl.1 rfl (Nat.le_of_ble_eq_true rfl) (Nat.le_of_ble_eq_true rfl) (Nat.le_of_ble_eq_true rfl) (Nat.le_of_ble_eq_true rfl) (Nat.le_of_ble_eq_true rfl) dX8_init_82 (fun H locs hW => ?_)
  refine W.widen (k := 12) (n := 7500) (Nat.le_refl _) (Nat.le_refl _) ?_
  have hW : mWb false G (shn shX (n + 12)) (Lq B 99) q23 (mcA shX B 99 n) s H _ := hW
  refine m_putrF C hin hW ⟨(by show a0 < n + 12; omega), ka0⟩ ffX8_37 (by decide) (Or.inl ⟨_, rfl⟩) ⟨(by show (n + 10) < n + 12; omega), hk22.2⟩ dX8_init_85 (fun H locs hW => ?_)
  refine lv_aload_n C.1 C.2.1 dX8_init_88 rfl (lv_at hl 0 rfl) ?_
  refine lv_iconst C.1 C.2.1 dX8_init_89 ic_3 ?_
  obtain ⟨hg25, hf⟩ := gd hf
  have hk26 := okA_spec hg25
  refine mc_newref (kd := 16) (k0 := 4) C hW (by omega) (by decide) (by omega) hk26.1 hk26.2.1 (by decide) rfl hW.2.2.2.2.2.2.2.2.2.2.2.2.1 (gm_1 60 rfl rfl) hk26.2.2.1 hk26.2.2.2.1 hk26.2.2.2.2 (Nat.le_of_ble_eq_true rfl) (Nat.le_of_ble_eq_true rfl) dX8_init_90 (fun H hW => ?_)
  refine W.widen (k := 13) (n := 8500) (Nat.le_refl _) (Nat.le_refl _) ?_
  have hW : mWb false G (shn shX (n + 13)) (Lq B 99) (wip (pR q23 a0 6 (n + 10)) (n + 12)) (mcA shX B 99 n) s H _ := hW
  refine lv_dup C.1 C.2.1 dX8_init_93 rfl ?_
  refine lv_iconst C.1 C.2.1 dX8_init_94 ic_0 ?_
  obtain ⟨hg27, hf⟩ := gd hf
  have hk28 := okO_spec hg27
  refine mc_new (ci := 1) C hW (by omega) (by decide) (by omega) hk28.1 hk28.2 nwX8_40 (Nat.le_of_ble_eq_true rfl) (Nat.le_of_ble_eq_true rfl) dX8_init_95 (fun H hW => ?_)
  refine W.widen (k := 14) (n := 8600) (Nat.le_refl _) (Nat.le_refl _) ?_
  have hW : mWb false G (shn shX (n + 14)) (Lq B 99) (wip (wip (pR q23 a0 6 (n + 10)) (n + 12)) (n + 13)) (mcA shX B 99 n) s H _ := hW
  refine lv_dup C.1 C.2.1 dX8_init_98 rfl ?_
  obtain ⟨q29, h30, hf⟩ := bd hf
  refine mc_callI (n' := n + 16) (As := []) (rest := [.ref (ad (Lq B 99) (n + 13)), .int (0 : Int32), .ref (ad (Lq B 99) (n + 12)), .ref (ad (Lq B 99) (n + 12)), .ref (ad (Lq B 99) a0)]) C hW (by omega) (by omega) (okN hnN) (okN hnN) (cX1_init_ok (by omega) hk28.2 h30) liX8_42 rfl hl.1 rfl (Nat.le_of_ble_eq_true rfl) (Nat.le_of_ble_eq_true rfl) (Nat.le_of_ble_eq_true rfl) (Nat.le_of_ble_eq_true rfl) (Nat.le_of_ble_eq_true rfl) dX8_init_99 (fun H locs hW => ?_)
  refine W.widen (k := 16) (n := 10600) (Nat.le_refl _) (Nat.le_refl _) ?_
  have hW : mWb false G (shn shX (n + 16)) (Lq B 99) q29 (mcA shX B 99 n) s H _ := hW
  obtain ⟨hb31, hf⟩ := gd hf
  refine m_aast C hW ⟨(by show (n + 12) < n + 16; omega), hk26.2.1⟩ (Or.inl ⟨rfl, rfl, rfl⟩) rfl ⟨(by show (n + 13) < n + 16; omega), hk28.2⟩ hb31 dX8_init_102 (fun H locs hW => ?_)
  refine lv_dup C.1 C.2.1 dX8_init_103 rfl ?_
  refine lv_iconst C.1 C.2.1 dX8_init_104 ic_1 ?_
  obtain ⟨hg32, hf⟩ := gd hf
  have hk33 := okO_spec hg32
  refine mc_new (ci := 1) C hW (by omega) (by decide) (by omega) hk33.1 hk33.2 nwX8_40 (Nat.le_of_ble_eq_true rfl) (Nat.le_of_ble_eq_true rfl) dX8_init_105 (fun H hW => ?_)
  refine W.widen (k := 17) (n := 10700) (Nat.le_refl _) (Nat.le_refl _) ?_
  have hW : mWb false G (shn shX (n + 17)) (Lq B 99) (wip (pR q29 (n + 12) ((0 : Int32).toNatClampNeg) (n + 13)) (n + 16)) (mcA shX B 99 n) s H _ := hW
  refine lv_dup C.1 C.2.1 dX8_init_108 rfl ?_
  obtain ⟨q34, h35, hf⟩ := bd hf
  refine mc_callI (n' := n + 19) (As := []) (rest := [.ref (ad (Lq B 99) (n + 16)), .int (1 : Int32), .ref (ad (Lq B 99) (n + 12)), .ref (ad (Lq B 99) (n + 12)), .ref (ad (Lq B 99) a0)]) C hW (by omega) (by omega) (okN hnN) (okN hnN) (cX1_init_ok (by omega) hk33.2 h35) liX8_42 rfl hl.1 rfl (Nat.le_of_ble_eq_true rfl) (Nat.le_of_ble_eq_true rfl) (Nat.le_of_ble_eq_true rfl) (Nat.le_of_ble_eq_true rfl) (Nat.le_of_ble_eq_true rfl) dX8_init_109 (fun H locs hW => ?_)
  refine W.widen (k := 19) (n := 12700) (Nat.le_refl _) (Nat.le_refl _) ?_
  have hW : mWb false G (shn shX (n + 19)) (Lq B 99) q34 (mcA shX B 99 n) s H _ := hW
  obtain ⟨hb36, hf⟩ := gd hf
  refine m_aast C hW ⟨(by show (n + 12) < n + 19; omega), hk26.2.1⟩ (Or.inl ⟨rfl, rfl, rfl⟩) rfl ⟨(by show (n + 16) < n + 19; omega), hk33.2⟩ hb36 dX8_init_112 (fun H locs hW => ?_)
  refine lv_dup C.1 C.2.1 dX8_init_113 rfl ?_
  refine lv_iconst C.1 C.2.1 dX8_init_114 ic_2 ?_
  obtain ⟨hg37, hf⟩ := gd hf
  have hk38 := okO_spec hg37
  refine mc_new (ci := 1) C hW (by omega) (by decide) (by omega) hk38.1 hk38.2 nwX8_40 (Nat.le_of_ble_eq_true rfl) (Nat.le_of_ble_eq_true rfl) dX8_init_115 (fun H hW => ?_)
  refine W.widen (k := 20) (n := 12800) (Nat.le_refl _) (Nat.le_refl _) ?_
  have hW : mWb false G (shn shX (n + 20)) (Lq B 99) (wip (pR q34 (n + 12) ((1 : Int32).toNatClampNeg) (n + 16)) (n + 19)) (mcA shX B 99 n) s H _ := hW
  refine lv_dup C.1 C.2.1 dX8_init_118 rfl ?_
  obtain ⟨q39, h40, hf⟩ := bd hf
  refine mc_callI (n' := n + 22) (As := []) (rest := [.ref (ad (Lq B 99) (n + 19)), .int (2 : Int32), .ref (ad (Lq B 99) (n + 12)), .ref (ad (Lq B 99) (n + 12)), .ref (ad (Lq B 99) a0)]) C hW (by omega) (by omega) (okN hnN) (okN hnN) (cX1_init_ok (by omega) hk38.2 h40) liX8_42 rfl hl.1 rfl (Nat.le_of_ble_eq_true rfl) (Nat.le_of_ble_eq_true rfl) (Nat.le_of_ble_eq_true rfl) (Nat.le_of_ble_eq_true rfl) (Nat.le_of_ble_eq_true rfl) dX8_init_119 (fun H locs hW => ?_)
  refine W.widen (k := 22) (n := 14800) (Nat.le_refl _) (Nat.le_refl _) ?_
  have hW : mWb false G (shn shX (n + 22)) (Lq B 99) q39 (mcA shX B 99 n) s H _ := hW
  obtain ⟨hb41, hf⟩ := gd hf
  refine m_aast C hW ⟨(by show (n + 12) < n + 22; omega), hk26.2.1⟩ (Or.inl ⟨rfl, rfl, rfl⟩) rfl ⟨(by show (n + 19) < n + 22; omega), hk38.2⟩ hb41 dX8_init_122 (fun H locs hW => ?_)
  refine m_putrF C hin hW ⟨(by show a0 < n + 22; omega), ka0⟩ ffX8_43 (by decide) (Or.inr ⟨_, rfl⟩) ⟨(by show (n + 12) < n + 22; omega), hk26.2.1⟩ dX8_init_123 (fun H locs hW => ?_)
  cases hf
  exact mc_ret C hW (by omega) (by omega) (okN hnN) dX8_init_126

def fX4_init (n : Nat) (a0 : Nat) (a1 : Nat) (S : MS) : Option MS := (if decide (n + 23 ≤ 99) = true then (if okA shX (n + 0) 13 (4 : Int32) = true then (if okA shX (n + 1) 13 (4 : Int32) = true then (if okA shX (n + 2) 17 (5 : Int32) = true then (if okO shX (n + 3) 9 = true then (fX9_init (n + 4) (n + 3) (wip (wip (pR (wip (pR (wip S (n + 0)) a0 0 (n + 0)) (n + 1)) a0 1 (n + 1)) (n + 2)) (n + 3))).bind fun q9 => (if bnd (0 : Int32) (lnX (n + 2)) = true then (if okO shX (n + 7) 9 = true then (fX9_init (n + 8) (n + 7) (wip (pR q9 (n + 2) ((0 : Int32).toNatClampNeg) (n + 3)) (n + 7))).bind fun q14 => (if bnd (1 : Int32) (lnX (n + 2)) = true then (if okO shX (n + 11) 9 = true then (fX9_init (n + 12) (n + 11) (wip (pR q14 (n + 2) ((1 : Int32).toNatClampNeg) (n + 7)) (n + 11))).bind fun q19 => (if bnd (2 : Int32) (lnX (n + 2)) = true then (if okO shX (n + 15) 9 = true then (fX9_init (n + 16) (n + 15) (wip (pR q19 (n + 2) ((2 : Int32).toNatClampNeg) (n + 11)) (n + 15))).bind fun q24 => (if bnd (3 : Int32) (lnX (n + 2)) = true then (if okO shX (n + 19) 9 = true then (fX9_init (n + 20) (n + 19) (wip (pR q24 (n + 2) ((3 : Int32).toNatClampNeg) (n + 15)) (n + 19))).bind fun q29 => (if bnd (4 : Int32) (lnX (n + 2)) = true then some (pR (pR (pR q29 (n + 2) ((4 : Int32).toNatClampNeg) (n + 19)) a0 2 (n + 2)) a0 3 a1) else none) else none) else none) else none) else none) else none) else none) else none) else none) else none) else none) else none) else none) else none)
set_option maxRecDepth 100000 in
theorem cX4_init_ok {l : Launch} {G : Gv} {B n : Nat} {S : MS} {a0 : Nat} {a1 : Nat} {q : MS} (la0 : a0 < n) (ka0 : kdX a0 = 4) (la1 : a1 < n) (ka1 : kdX a1 = 0) (hf : fX4_init n a0 a1 S = some q) : MtC l yX4_init cX4_init 2 2 23 18500 G shX B 99 n (n + 23) S [.ref (ad (Lq B 99) a0), .ref (ad (Lq B 99) a1)] q := by
  unfold fX4_init at hf
  obtain ⟨hz0, hf⟩ := gd hf
  have hnN := of_decide_eq_true hz0
  have hn0 : 0 < n := by omega
  refine mc_enter (lv := [(0, .ref (ad (Lq B 99) a0)), (1, .ref (ad (Lq B 99) a1))]) (by decide) rfl (Nat.le_of_ble_eq_true rfl) rfl (by omega) ?_
  intro p e s m below meth c ls C hin hs hW hl
  refine lv_aload_n C.1 C.2.1 dX4_init_0 rfl (lv_at hl 0 rfl) ?_
  refine W.objInit C.1 C.2.1 C.2.2.2.1 (C.2.2.2.2.1 _ (gm_2 57 rfl rfl)) (C.2.2.2.2.1 _ ob_1) (C.2.2.2.2.1 _ ob_2) rfl (hl.1.trans C.2.2.1.symm) rfl dX4_init_1 (Nat.le_of_ble_eq_true rfl) (Nat.le_of_ble_eq_true rfl) ?_
  refine W.eq (g2 := F0 m 4 ls []) rfl ?_
  refine lv_aload_n C.1 C.2.1 dX4_init_4 rfl (lv_at hl 0 rfl) ?_
  refine lv_iconst C.1 C.2.1 dX4_init_5 ic_4 ?_
  obtain ⟨hg1, hf⟩ := gd hf
  have hk2 := okA_spec hg1
  refine mc_newarr (kd := 13) (k0 := 1) C hW (by omega) (by decide) (by omega) hk2.1 hk2.2.1 (mcell_i hk2.2.1) rfl rfl (fun _ h => by cases h) (fun _ => by rw [wip_I]; rfl) (gm_1 59 rfl rfl) hk2.2.2.1 hk2.2.2.2.1 hk2.2.2.2.2 (by decide) (Nat.le_of_ble_eq_true rfl) (Nat.le_of_ble_eq_true rfl) dX4_init_6 (fun H hW => ?_)
  refine W.widen (k := 1) (n := 1000) (Nat.le_refl _) (Nat.le_refl _) ?_
  have hW : mWb false G (shn shX (n + 1)) (Lq B 99) (wip S (n + 0)) (mcA shX B 99 n) s H _ := hW
  refine m_putrF C hin hW ⟨(by show a0 < n + 1; omega), ka0⟩ ffX4_9 (by decide) (Or.inr ⟨_, rfl⟩) ⟨(by show (n + 0) < n + 1; omega), hk2.2.1⟩ dX4_init_8 (fun H locs hW => ?_)
  refine lv_aload_n C.1 C.2.1 dX4_init_11 rfl (lv_at hl 0 rfl) ?_
  refine lv_iconst C.1 C.2.1 dX4_init_12 ic_4 ?_
  obtain ⟨hg3, hf⟩ := gd hf
  have hk4 := okA_spec hg3
  refine mc_newarr (kd := 13) (k0 := 1) C hW (by omega) (by decide) (by omega) hk4.1 hk4.2.1 (mcell_i hk4.2.1) rfl rfl (fun _ h => by cases h) (fun _ => by rw [wip_I]; rfl) (gm_1 59 rfl rfl) hk4.2.2.1 hk4.2.2.2.1 hk4.2.2.2.2 (by decide) (Nat.le_of_ble_eq_true rfl) (Nat.le_of_ble_eq_true rfl) dX4_init_13 (fun H hW => ?_)
  refine W.widen (k := 2) (n := 2000) (Nat.le_refl _) (Nat.le_refl _) ?_
  have hW : mWb false G (shn shX (n + 2)) (Lq B 99) (wip (pR (wip S (n + 0)) a0 0 (n + 0)) (n + 1)) (mcA shX B 99 n) s H _ := hW
  refine m_putrF C hin hW ⟨(by show a0 < n + 2; omega), ka0⟩ ffX4_15 (by decide) (Or.inr ⟨_, rfl⟩) ⟨(by show (n + 1) < n + 2; omega), hk4.2.1⟩ dX4_init_15 (fun H locs hW => ?_)
  refine lv_aload_n C.1 C.2.1 dX4_init_18 rfl (lv_at hl 0 rfl) ?_
  refine lv_iconst C.1 C.2.1 dX4_init_19 ic_5 ?_
  obtain ⟨hg5, hf⟩ := gd hf
  have hk6 := okA_spec hg5
  refine mc_newref (kd := 17) (k0 := 5) C hW (by omega) (by decide) (by omega) hk6.1 hk6.2.1 (by decide) rfl hW.2.2.2.2.2.2.2.2.2.2.2.2.2 (gm_2 58 rfl rfl) hk6.2.2.1 hk6.2.2.2.1 hk6.2.2.2.2 (Nat.le_of_ble_eq_true rfl) (Nat.le_of_ble_eq_true rfl) dX4_init_20 (fun H hW => ?_)
  refine W.widen (k := 3) (n := 3000) (Nat.le_refl _) (Nat.le_refl _) ?_
  have hW : mWb false G (shn shX (n + 3)) (Lq B 99) (wip (pR (wip (pR (wip S (n + 0)) a0 0 (n + 0)) (n + 1)) a0 1 (n + 1)) (n + 2)) (mcA shX B 99 n) s H _ := hW
  refine lv_dup C.1 C.2.1 dX4_init_23 rfl ?_
  refine lv_iconst C.1 C.2.1 dX4_init_24 ic_0 ?_
  obtain ⟨hg7, hf⟩ := gd hf
  have hk8 := okO_spec hg7
  refine mc_new (ci := 9) C hW (by omega) (by decide) (by omega) hk8.1 hk8.2 nwX4_18 (Nat.le_of_ble_eq_true rfl) (Nat.le_of_ble_eq_true rfl) dX4_init_25 (fun H hW => ?_)
  refine W.widen (k := 4) (n := 3100) (Nat.le_refl _) (Nat.le_refl _) ?_
  have hW : mWb false G (shn shX (n + 4)) (Lq B 99) (wip (wip (pR (wip (pR (wip S (n + 0)) a0 0 (n + 0)) (n + 1)) a0 1 (n + 1)) (n + 2)) (n + 3)) (mcA shX B 99 n) s H _ := hW
  refine lv_dup C.1 C.2.1 dX4_init_28 rfl ?_
  obtain ⟨q9, h10, hf⟩ := bd hf
  refine mc_callI (n' := n + 7) (As := []) (rest := [.ref (ad (Lq B 99) (n + 3)), .int (0 : Int32), .ref (ad (Lq B 99) (n + 2)), .ref (ad (Lq B 99) (n + 2)), .ref (ad (Lq B 99) a0)]) C hW (by omega) (by omega) (okN hnN) (okN hnN) (cX9_init_ok (by omega) hk8.2 h10) liX4_20 rfl hl.1 rfl (Nat.le_of_ble_eq_true rfl) (Nat.le_of_ble_eq_true rfl) (Nat.le_of_ble_eq_true rfl) (Nat.le_of_ble_eq_true rfl) (Nat.le_of_ble_eq_true rfl) dX4_init_29 (fun H locs hW => ?_)
  refine W.widen (k := 7) (n := 6100) (Nat.le_refl _) (Nat.le_refl _) ?_
  have hW : mWb false G (shn shX (n + 7)) (Lq B 99) q9 (mcA shX B 99 n) s H _ := hW
  obtain ⟨hb11, hf⟩ := gd hf
  refine m_aast C hW ⟨(by show (n + 2) < n + 7; omega), hk6.2.1⟩ (Or.inr ⟨rfl, rfl, rfl⟩) rfl ⟨(by show (n + 3) < n + 7; omega), hk8.2⟩ hb11 dX4_init_32 (fun H locs hW => ?_)
  refine lv_dup C.1 C.2.1 dX4_init_33 rfl ?_
  refine lv_iconst C.1 C.2.1 dX4_init_34 ic_1 ?_
  obtain ⟨hg12, hf⟩ := gd hf
  have hk13 := okO_spec hg12
  refine mc_new (ci := 9) C hW (by omega) (by decide) (by omega) hk13.1 hk13.2 nwX4_18 (Nat.le_of_ble_eq_true rfl) (Nat.le_of_ble_eq_true rfl) dX4_init_35 (fun H hW => ?_)
  refine W.widen (k := 8) (n := 6200) (Nat.le_refl _) (Nat.le_refl _) ?_
  have hW : mWb false G (shn shX (n + 8)) (Lq B 99) (wip (pR q9 (n + 2) ((0 : Int32).toNatClampNeg) (n + 3)) (n + 7)) (mcA shX B 99 n) s H _ := hW
  refine lv_dup C.1 C.2.1 dX4_init_38 rfl ?_
  obtain ⟨q14, h15, hf⟩ := bd hf
  refine mc_callI (n' := n + 11) (As := []) (rest := [.ref (ad (Lq B 99) (n + 7)), .int (1 : Int32), .ref (ad (Lq B 99) (n + 2)), .ref (ad (Lq B 99) (n + 2)), .ref (ad (Lq B 99) a0)]) C hW (by omega) (by omega) (okN hnN) (okN hnN) (cX9_init_ok (by omega) hk13.2 h15) liX4_20 rfl hl.1 rfl (Nat.le_of_ble_eq_true rfl) (Nat.le_of_ble_eq_true rfl) (Nat.le_of_ble_eq_true rfl) (Nat.le_of_ble_eq_true rfl) (Nat.le_of_ble_eq_true rfl) dX4_init_39 (fun H locs hW => ?_)
  refine W.widen (k := 11) (n := 9200) (Nat.le_refl _) (Nat.le_refl _) ?_
  have hW : mWb false G (shn shX (n + 11)) (Lq B 99) q14 (mcA shX B 99 n) s H _ := hW
  obtain ⟨hb16, hf⟩ := gd hf
  refine m_aast C hW ⟨(by show (n + 2) < n + 11; omega), hk6.2.1⟩ (Or.inr ⟨rfl, rfl, rfl⟩) rfl ⟨(by show (n + 7) < n + 11; omega), hk13.2⟩ hb16 dX4_init_42 (fun H locs hW => ?_)
  refine lv_dup C.1 C.2.1 dX4_init_43 rfl ?_
  refine lv_iconst C.1 C.2.1 dX4_init_44 ic_2 ?_
  obtain ⟨hg17, hf⟩ := gd hf
  have hk18 := okO_spec hg17
  refine mc_new (ci := 9) C hW (by omega) (by decide) (by omega) hk18.1 hk18.2 nwX4_18 (Nat.le_of_ble_eq_true rfl) (Nat.le_of_ble_eq_true rfl) dX4_init_45 (fun H hW => ?_)
  refine W.widen (k := 12) (n := 9300) (Nat.le_refl _) (Nat.le_refl _) ?_
  have hW : mWb false G (shn shX (n + 12)) (Lq B 99) (wip (pR q14 (n + 2) ((1 : Int32).toNatClampNeg) (n + 7)) (n + 11)) (mcA shX B 99 n) s H _ := hW
  refine lv_dup C.1 C.2.1 dX4_init_48 rfl ?_
  obtain ⟨q19, h20, hf⟩ := bd hf
  refine mc_callI (n' := n + 15) (As := []) (rest := [.ref (ad (Lq B 99) (n + 11)), .int (2 : Int32), .ref (ad (Lq B 99) (n + 2)), .ref (ad (Lq B 99) (n + 2)), .ref (ad (Lq B 99) a0)]) C hW (by omega) (by omega) (okN hnN) (okN hnN) (cX9_init_ok (by omega) hk18.2 h20) liX4_20 rfl hl.1 rfl (Nat.le_of_ble_eq_true rfl) (Nat.le_of_ble_eq_true rfl) (Nat.le_of_ble_eq_true rfl) (Nat.le_of_ble_eq_true rfl) (Nat.le_of_ble_eq_true rfl) dX4_init_49 (fun H locs hW => ?_)
  refine W.widen (k := 15) (n := 12300) (Nat.le_refl _) (Nat.le_refl _) ?_
  have hW : mWb false G (shn shX (n + 15)) (Lq B 99) q19 (mcA shX B 99 n) s H _ := hW
  obtain ⟨hb21, hf⟩ := gd hf
  refine m_aast C hW ⟨(by show (n + 2) < n + 15; omega), hk6.2.1⟩ (Or.inr ⟨rfl, rfl, rfl⟩) rfl ⟨(by show (n + 11) < n + 15; omega), hk18.2⟩ hb21 dX4_init_52 (fun H locs hW => ?_)
  refine lv_dup C.1 C.2.1 dX4_init_53 rfl ?_
  refine lv_iconst C.1 C.2.1 dX4_init_54 ic_3 ?_
  obtain ⟨hg22, hf⟩ := gd hf
  have hk23 := okO_spec hg22
  refine mc_new (ci := 9) C hW (by omega) (by decide) (by omega) hk23.1 hk23.2 nwX4_18 (Nat.le_of_ble_eq_true rfl) (Nat.le_of_ble_eq_true rfl) dX4_init_55 (fun H hW => ?_)
  refine W.widen (k := 16) (n := 12400) (Nat.le_refl _) (Nat.le_refl _) ?_
  have hW : mWb false G (shn shX (n + 16)) (Lq B 99) (wip (pR q19 (n + 2) ((2 : Int32).toNatClampNeg) (n + 11)) (n + 15)) (mcA shX B 99 n) s H _ := hW
  refine lv_dup C.1 C.2.1 dX4_init_58 rfl ?_
  obtain ⟨q24, h25, hf⟩ := bd hf
  refine mc_callI (n' := n + 19) (As := []) (rest := [.ref (ad (Lq B 99) (n + 15)), .int (3 : Int32), .ref (ad (Lq B 99) (n + 2)), .ref (ad (Lq B 99) (n + 2)), .ref (ad (Lq B 99) a0)]) C hW (by omega) (by omega) (okN hnN) (okN hnN) (cX9_init_ok (by omega) hk23.2 h25) liX4_20 rfl hl.1 rfl (Nat.le_of_ble_eq_true rfl) (Nat.le_of_ble_eq_true rfl) (Nat.le_of_ble_eq_true rfl) (Nat.le_of_ble_eq_true rfl) (Nat.le_of_ble_eq_true rfl) dX4_init_59 (fun H locs hW => ?_)
  refine W.widen (k := 19) (n := 15400) (Nat.le_refl _) (Nat.le_refl _) ?_
  have hW : mWb false G (shn shX (n + 19)) (Lq B 99) q24 (mcA shX B 99 n) s H _ := hW
  obtain ⟨hb26, hf⟩ := gd hf
  refine m_aast C hW ⟨(by show (n + 2) < n + 19; omega), hk6.2.1⟩ (Or.inr ⟨rfl, rfl, rfl⟩) rfl ⟨(by show (n + 15) < n + 19; omega), hk23.2⟩ hb26 dX4_init_62 (fun H locs hW => ?_)
  refine lv_dup C.1 C.2.1 dX4_init_63 rfl ?_
  refine lv_iconst C.1 C.2.1 dX4_init_64 ic_4 ?_
  obtain ⟨hg27, hf⟩ := gd hf
  have hk28 := okO_spec hg27
  refine mc_new (ci := 9) C hW (by omega) (by decide) (by omega) hk28.1 hk28.2 nwX4_18 (Nat.le_of_ble_eq_true rfl) (Nat.le_of_ble_eq_true rfl) dX4_init_65 (fun H hW => ?_)
  refine W.widen (k := 20) (n := 15500) (Nat.le_refl _) (Nat.le_refl _) ?_
  have hW : mWb false G (shn shX (n + 20)) (Lq B 99) (wip (pR q24 (n + 2) ((3 : Int32).toNatClampNeg) (n + 15)) (n + 19)) (mcA shX B 99 n) s H _ := hW
  refine lv_dup C.1 C.2.1 dX4_init_68 rfl ?_
  obtain ⟨q29, h30, hf⟩ := bd hf
  refine mc_callI (n' := n + 23) (As := []) (rest := [.ref (ad (Lq B 99) (n + 19)), .int (4 : Int32), .ref (ad (Lq B 99) (n + 2)), .ref (ad (Lq B 99) (n + 2)), .ref (ad (Lq B 99) a0)]) C hW (by omega) (by omega) (okN hnN) (okN hnN) (cX9_init_ok (by omega) hk28.2 h30) liX4_20 rfl hl.1 rfl (Nat.le_of_ble_eq_true rfl) (Nat.le_of_ble_eq_true rfl) (Nat.le_of_ble_eq_true rfl) (Nat.le_of_ble_eq_true rfl) (Nat.le_of_ble_eq_true rfl) dX4_init_69 (fun H locs hW => ?_)
  refine W.widen (k := 23) (n := 18500) (Nat.le_refl _) (Nat.le_refl _) ?_
  have hW : mWb false G (shn shX (n + 23)) (Lq B 99) q29 (mcA shX B 99 n) s H _ := hW
  obtain ⟨hb31, hf⟩ := gd hf
  refine m_aast C hW ⟨(by show (n + 2) < n + 23; omega), hk6.2.1⟩ (Or.inr ⟨rfl, rfl, rfl⟩) rfl ⟨(by show (n + 19) < n + 23; omega), hk28.2⟩ hb31 dX4_init_72 (fun H locs hW => ?_)
  refine m_putrF C hin hW ⟨(by show a0 < n + 23; omega), ka0⟩ ffX4_21 (by decide) (Or.inr ⟨_, rfl⟩) ⟨(by show (n + 2) < n + 23; omega), hk6.2.1⟩ dX4_init_73 (fun H locs hW => ?_)
  refine lv_aload_n C.1 C.2.1 dX4_init_76 rfl (lv_at hl 0 rfl) ?_
  refine lv_aload_n C.1 C.2.1 dX4_init_77 rfl (lv_at hl 1 rfl) ?_
  refine m_putrF C hin hW ⟨(by show a0 < n + 23; omega), ka0⟩ ffX4_25 (by decide) (Or.inl ⟨_, rfl⟩) ⟨(by show a1 < n + 23; omega), ka1⟩ dX4_init_78 (fun H locs hW => ?_)
  cases hf
  exact mc_ret C hW (by omega) (by omega) (okN hnN) dX4_init_81

def fX5_init_53 (n : Nat) : Nat → Nat → Int32 → Int32 → Int32 → Int32 → MS → Option MS
  | 0, _, _, _, _, _, _ => none
  | m_ + 1, x0, x2, x3, x4, x5, S => (if (113 : Int32) ≤ x5 then some S else (if (24 : Int32) ≤ x2 then some S else (if bnd x5 lngB.length = true then (if lngC x5 = (32 : Int32) then (if gR S x0 0 = nul then none else (if bnd x2 (lnX (gR S x0 0)) = true then fX5_init_53 n m_ x0 (x2 + (1 : Int32)) (0 : Int32) (25 : Int32) (x5 + (1 : Int32)) (pI S (gR S x0 0) (x2.toNatClampNeg) x3) else none)) else fX5_init_53 n m_ x0 x2 (x3 ||| ((((lngC x5) - (97 : Int32)) + (1 : Int32)) <<< (x4 &&& 31))) (x4 + (-5 : Int32)) (x5 + (1 : Int32)) S) else none)))
def fX5_init_42 (n : Nat) (x0 : Nat) (S : MS) : Option MS := fX5_init_53 n 1000 x0 (0 : Int32) (0 : Int32) (25 : Int32) (0 : Int32) S
def fX5_init (n : Nat) (a0 : Nat) (a1 : Nat) (S : MS) : Option MS := (if decide (n + 3 ≤ 99) = true then (if okA shX (n + 0) 13 (24 : Int32) = true then (if okA shX (n + 1) 13 (72 : Int32) = true then (if okA shX (n + 2) 12 (0 : Int32) = true then (if gR (pR (pR (wip (pR (wip (pR (wip S (n + 0)) a0 0 (n + 0)) (n + 1)) a0 1 (n + 1)) (n + 2)) a0 2 (n + 2)) a0 9 a1) a1 7 = nul then none else (if bnd (0 : Int32) (lnX (gR (pR (pR (wip (pR (wip (pR (wip S (n + 0)) a0 0 (n + 0)) (n + 1)) a0 1 (n + 1)) (n + 2)) a0 2 (n + 2)) a0 9 a1) a1 7)) = true then (if gR (pR (pR (wip (pR (wip (pR (wip S (n + 0)) a0 0 (n + 0)) (n + 1)) a0 1 (n + 1)) (n + 2)) a0 2 (n + 2)) a0 9 a1) (gR (pR (pR (wip (pR (wip (pR (wip S (n + 0)) a0 0 (n + 0)) (n + 1)) a0 1 (n + 1)) (n + 2)) a0 2 (n + 2)) a0 9 a1) a1 7) (0 : Int32).toNatClampNeg = nul then none else fX5_init_42 n a0 (pR (pR (pR (wip (pR (wip (pR (wip S (n + 0)) a0 0 (n + 0)) (n + 1)) a0 1 (n + 1)) (n + 2)) a0 2 (n + 2)) a0 9 a1) a0 10 (gR (pR (pR (wip (pR (wip (pR (wip S (n + 0)) a0 0 (n + 0)) (n + 1)) a0 1 (n + 1)) (n + 2)) a0 2 (n + 2)) a0 9 a1) (gR (pR (pR (wip (pR (wip (pR (wip S (n + 0)) a0 0 (n + 0)) (n + 1)) a0 1 (n + 1)) (n + 2)) a0 2 (n + 2)) a0 9 a1) a1 7) (0 : Int32).toNatClampNeg))) else none)) else none) else none) else none) else none)
set_option maxRecDepth 100000 in
theorem kX5_init_53 {p : Program} {l : Launch} {e : Env} {s : State} {m : MethodId} {av : Array Value} {below : List Frame} {meth : Method} {c : Code} {G : Gv} {B n : Nat} {q : MS} (C : mC p s m av meth c cX5_init RX5 7 none) (hin : meth.name = "<init>") (hs : s.heap.size = B + n) (hn0 : 0 < n) (hnN : n + 3 ≤ 99) : ∀ (m_ : Nat) (x0 : Nat) (x2 : Int32) (x3 : Int32) (x4 : Int32) (x5 : Int32) (S : MS) (H : Heap) (locs : List Loc) (ls : Array Slot), (x0 < n + 3) → (kdX x0 = 5) → mWb false G (shn shX (n + 3)) (Lq B 99) S (mcA shX B 99 n) s H locs → lv_has ls 7 [(0, .ref (ad (Lq B 99) x0)), (2, .int x2), (3, .int x3), (4, .int x4), (5, .int x5)] → fX5_init_53 n m_ x0 x2 x3 x4 x5 S = some q → W p l e (rmC 5 3 3000) s m av below meth c H locs 3 3000 (MQ below (mQc G shX B 99 (n + 3) q (mcA shX B 99 n)) av s 3 3000 (mcA shX B 99 n)) (F0 m 53 ls []) := by
  intro m_
  induction m_ with
  | zero =>
    intro x0 x2 x3 x4 x5 S H locs ls lx0 hx0 hW hl hf
    rw [fX5_init_53] at hf
    cases hf
  | succ m_ ih =>
    intro x0 x2 x3 x4 x5 S H locs ls lx0 hx0 hW hl hf
    rw [fX5_init_53] at hf
    refine lv_iload C.1 C.2.1 dX5_init_53 (lv_at hl 4 rfl) ?_
    refine va_ldcS C.1 C.2.1 C.2.2.2.1 hW.2.2.2.2.2.2.2.2.2.2.2.1 dX5_init_55 ?_
    refine mc_callK (n := 0) (As := []) (rest := [.int x5]) C hW (cJ0_length_8abf5_ok) rfl (gm_1 168 rfl rfl) (gm_1 169 rfl rfl) (gm_1 170 rfl rfl) (gm_1 6 rfl rfl) (gm_1 171 rfl rfl) (by decide +kernel) rfl hl.1 rfl (Nat.le_of_ble_eq_true rfl) (Nat.le_of_ble_eq_true rfl) (Nat.le_of_ble_eq_true rfl) (Nat.le_of_ble_eq_true rfl) (Nat.le_of_ble_eq_true rfl) dX5_init_57 (fun H locs hW => ?_)
    refine lv_icmp_ge (tgt := 126) C.1 C.2.1 dX5_init_60 rfl (fun c1 => ?_) (fun c1 => ?_)
    · have hf := (if_pos c1).symm.trans hf
      cases hf
      exact mc_ret C hW (by omega) (by omega) (okN hnN) dX5_init_126
    · have hf := (if_neg c1).symm.trans hf
      refine lv_iload_n C.1 C.2.1 dX5_init_63 rfl (lv_at hl 1 rfl) ?_
      refine lv_bipush C.1 C.2.1 dX5_init_64 bp_24 ?_
      refine lv_icmp_ge (tgt := 126) C.1 C.2.1 dX5_init_66 rfl (fun c2 => ?_) (fun c2 => ?_)
      · have hf := (if_pos c2).symm.trans hf
        cases hf
        exact mc_ret C hW (by omega) (by omega) (okN hnN) dX5_init_126
      · have hf := (if_neg c2).symm.trans hf
        refine va_ldcS C.1 C.2.1 C.2.2.2.1 hW.2.2.2.2.2.2.2.2.2.2.2.1 dX5_init_69 ?_
        refine lv_iload C.1 C.2.1 dX5_init_71 (lv_at hl 4 rfl) ?_
        obtain ⟨hb3, hf⟩ := gd hf
        refine mc_callK (n := 1) (As := [.int x5]) (rest := []) C hW (cJ0_charAt_5068e_ok hb3) rfl (gm_1 178 rfl rfl) (gm_1 179 rfl rfl) (gm_1 180 rfl rfl) (gm_1 6 rfl rfl) (gm_1 181 rfl rfl) (by decide +kernel) rfl hl.1 rfl (Nat.le_of_ble_eq_true rfl) (Nat.le_of_ble_eq_true rfl) (Nat.le_of_ble_eq_true rfl) (Nat.le_of_ble_eq_true rfl) (Nat.le_of_ble_eq_true rfl) dX5_init_73 (fun H locs hW => ?_)
        refine lv_istore (lv' := [(6, .int (lngC x5)), (0, .ref (ad (Lq B 99) x0)), (2, .int x2), (3, .int x3), (4, .int x4), (5, .int x5)]) C.1 C.2.1 dX5_init_76 hl (by decide) rfl (fun ls hl => ?_)
        refine lv_iload C.1 C.2.1 dX5_init_78 (lv_at hl 0 rfl) ?_
        refine lv_bipush C.1 C.2.1 dX5_init_80 bp_32 ?_
        refine lv_icmp_ne (tgt := 104) C.1 C.2.1 dX5_init_82 rfl (fun c4 => ?_) (fun c4 => ?_)
        · have hf := (if_neg c4).symm.trans hf
          refine lv_iload_n C.1 C.2.1 dX5_init_104 rfl (lv_at hl 3 rfl) ?_
          refine lv_iload C.1 C.2.1 dX5_init_105 (lv_at hl 0 rfl) ?_
          refine lv_bipush C.1 C.2.1 dX5_init_107 bp_97 ?_
          refine lv_isub C.1 C.2.1 dX5_init_109 ?_
          refine lv_iconst C.1 C.2.1 dX5_init_110 ic_1 ?_
          refine lv_iadd C.1 C.2.1 dX5_init_111 ?_
          refine lv_iload C.1 C.2.1 dX5_init_112 (lv_at hl 4 rfl) ?_
          refine lv_ishl C.1 C.2.1 dX5_init_114 ?_
          refine lv_ior C.1 C.2.1 dX5_init_115 ?_
          refine lv_istore_n (lv' := [(3, .int (x3 ||| ((((lngC x5) - (97 : Int32)) + (1 : Int32)) <<< (x4 &&& 31)))), (6, .int (lngC x5)), (0, .ref (ad (Lq B 99) x0)), (2, .int x2), (4, .int x4), (5, .int x5)]) C.1 C.2.1 dX5_init_116 rfl hl (by decide) rfl (fun ls hl => ?_)
          refine lv_iinc (v := x4 + (-5 : Int32)) (lv' := [(4, .int (x4 + (-5 : Int32))), (3, .int (x3 ||| ((((lngC x5) - (97 : Int32)) + (1 : Int32)) <<< (x4 &&& 31)))), (6, .int (lngC x5)), (0, .ref (ad (Lq B 99) x0)), (2, .int x2), (5, .int x5)]) C.1 C.2.1 dX5_init_117 hl (k := 4) rfl (congrArg (fun z => x4 + z) ic_m5) (by decide) rfl (fun ls hl => ?_)
          refine lv_iinc (v := x5 + (1 : Int32)) (lv' := [(5, .int (x5 + (1 : Int32))), (4, .int (x4 + (-5 : Int32))), (3, .int (x3 ||| ((((lngC x5) - (97 : Int32)) + (1 : Int32)) <<< (x4 &&& 31)))), (6, .int (lngC x5)), (0, .ref (ad (Lq B 99) x0)), (2, .int x2)]) C.1 C.2.1 dX5_init_120 hl (k := 5) rfl (congrArg (fun z => x5 + z) ic_1) (by decide) rfl (fun ls hl => ?_)
          refine lv_goto (tgt := 53) C.1 C.2.1 dX5_init_123 rfl ?_
          exact ih x0 x2 (x3 ||| ((((lngC x5) - (97 : Int32)) + (1 : Int32)) <<< (x4 &&& 31))) (x4 + (-5 : Int32)) (x5 + (1 : Int32)) _ _ _ _ (by omega) hx0 hW (lv_sub hl [4, 5, 2, 1, 0] rfl) hf
        · have hf := (if_pos c4).symm.trans hf
          refine lv_aload_n C.1 C.2.1 dX5_init_85 rfl (lv_at hl 1 rfl) ?_
          obtain ⟨hn5, hf⟩ := nz hf
          refine m_getrb C hW ⟨(by show x0 < n + 3; omega), hx0⟩ flX5_13 (by decide) (fun _ => hn5) dX5_init_86 (fun hk6 => ?_)
          have hl7 : gR S x0 0 < n + 3 := hk6.1
          refine lv_iload_n C.1 C.2.1 dX5_init_89 rfl (lv_at hl 2 rfl) ?_
          refine lv_iload_n C.1 C.2.1 dX5_init_90 rfl (lv_at hl 3 rfl) ?_
          obtain ⟨hb8, hf⟩ := gd hf
          refine m_iast C hW ⟨(by show gR S x0 0 < n + 3; omega), hk6.2⟩ hb8 dX5_init_91 (fun H locs hW => ?_)
          refine lv_iinc (v := x2 + (1 : Int32)) (lv' := [(2, .int (x2 + (1 : Int32))), (6, .int (lngC x5)), (0, .ref (ad (Lq B 99) x0)), (3, .int x3), (4, .int x4), (5, .int x5)]) C.1 C.2.1 dX5_init_92 hl (k := 2) rfl (congrArg (fun z => x2 + z) ic_1) (by decide) rfl (fun ls hl => ?_)
          refine lv_iconst C.1 C.2.1 dX5_init_95 ic_0 ?_
          refine lv_istore_n (lv' := [(3, .int (0 : Int32)), (2, .int (x2 + (1 : Int32))), (6, .int (lngC x5)), (0, .ref (ad (Lq B 99) x0)), (4, .int x4), (5, .int x5)]) C.1 C.2.1 dX5_init_96 rfl hl (by decide) rfl (fun ls hl => ?_)
          refine lv_bipush C.1 C.2.1 dX5_init_97 bp_25 ?_
          refine lv_istore (lv' := [(4, .int (25 : Int32)), (3, .int (0 : Int32)), (2, .int (x2 + (1 : Int32))), (6, .int (lngC x5)), (0, .ref (ad (Lq B 99) x0)), (5, .int x5)]) C.1 C.2.1 dX5_init_99 hl (by decide) rfl (fun ls hl => ?_)
          refine lv_goto (tgt := 120) C.1 C.2.1 dX5_init_101 rfl ?_
          refine lv_iinc (v := x5 + (1 : Int32)) (lv' := [(5, .int (x5 + (1 : Int32))), (4, .int (25 : Int32)), (3, .int (0 : Int32)), (2, .int (x2 + (1 : Int32))), (6, .int (lngC x5)), (0, .ref (ad (Lq B 99) x0))]) C.1 C.2.1 dX5_init_120 hl (k := 5) rfl (congrArg (fun z => x5 + z) ic_1) (by decide) rfl (fun ls hl => ?_)
          refine lv_goto (tgt := 53) C.1 C.2.1 dX5_init_123 rfl ?_
          exact ih x0 (x2 + (1 : Int32)) (0 : Int32) (25 : Int32) (x5 + (1 : Int32)) _ _ _ _ (by omega) hx0 hW (lv_sub hl [5, 3, 2, 1, 0] rfl) hf

set_option maxRecDepth 100000 in
theorem kX5_init_42 {p : Program} {l : Launch} {e : Env} {s : State} {m : MethodId} {av : Array Value} {below : List Frame} {meth : Method} {c : Code} {G : Gv} {B n : Nat} {q : MS} (C : mC p s m av meth c cX5_init RX5 7 none) (hin : meth.name = "<init>") (hs : s.heap.size = B + n) (hn0 : 0 < n) (hnN : n + 3 ≤ 99) : ∀ (x0 : Nat) (S : MS) (H : Heap) (locs : List Loc) (ls : Array Slot), (x0 < n + 3) → (kdX x0 = 5) → mWb false G (shn shX (n + 3)) (Lq B 99) S (mcA shX B 99 n) s H locs → lv_has ls 7 [(0, .ref (ad (Lq B 99) x0))] → fX5_init_42 n x0 S = some q → W p l e (rmC 5 3 3000) s m av below meth c H locs 3 3000 (MQ below (mQc G shX B 99 (n + 3) q (mcA shX B 99 n)) av s 3 3000 (mcA shX B 99 n)) (F0 m 42 ls []) := by
  intro x0 S H locs ls lx0 hx0 hW hl hf
  unfold fX5_init_42 at hf
  refine lv_iconst C.1 C.2.1 dX5_init_42 ic_0 ?_
  refine lv_istore_n (lv' := [(2, .int (0 : Int32)), (0, .ref (ad (Lq B 99) x0))]) C.1 C.2.1 dX5_init_43 rfl hl (by decide) rfl (fun ls hl => ?_)
  refine lv_iconst C.1 C.2.1 dX5_init_44 ic_0 ?_
  refine lv_istore_n (lv' := [(3, .int (0 : Int32)), (2, .int (0 : Int32)), (0, .ref (ad (Lq B 99) x0))]) C.1 C.2.1 dX5_init_45 rfl hl (by decide) rfl (fun ls hl => ?_)
  refine lv_bipush C.1 C.2.1 dX5_init_46 bp_25 ?_
  refine lv_istore (lv' := [(4, .int (25 : Int32)), (3, .int (0 : Int32)), (2, .int (0 : Int32)), (0, .ref (ad (Lq B 99) x0))]) C.1 C.2.1 dX5_init_48 hl (by decide) rfl (fun ls hl => ?_)
  refine lv_iconst C.1 C.2.1 dX5_init_50 ic_0 ?_
  refine lv_istore (lv' := [(5, .int (0 : Int32)), (4, .int (25 : Int32)), (3, .int (0 : Int32)), (2, .int (0 : Int32)), (0, .ref (ad (Lq B 99) x0))]) C.1 C.2.1 dX5_init_51 hl (by decide) rfl (fun ls hl => ?_)
  exact kX5_init_53 C hin hs hn0 hnN 1000 x0 (0 : Int32) (0 : Int32) (25 : Int32) (0 : Int32) _ _ _ _ (by omega) hx0 hW (lv_sub hl [4, 3, 2, 1, 0] rfl) hf

set_option maxRecDepth 100000 in
theorem cX5_init_ok {l : Launch} {G : Gv} {B n : Nat} {S : MS} {a0 : Nat} {a1 : Nat} {q : MS} (la0 : a0 < n) (ka0 : kdX a0 = 5) (la1 : a1 < n) (ka1 : kdX a1 = 8) (hf : fX5_init n a0 a1 S = some q) : MtC l yX5_init cX5_init 7 5 3 3000 G shX B 99 n (n + 3) S [.ref (ad (Lq B 99) a0), .ref (ad (Lq B 99) a1)] q := by
  unfold fX5_init at hf
  obtain ⟨hz0, hf⟩ := gd hf
  have hnN := of_decide_eq_true hz0
  have hn0 : 0 < n := by omega
  refine mc_enter (lv := [(0, .ref (ad (Lq B 99) a0)), (1, .ref (ad (Lq B 99) a1))]) (by decide) rfl (Nat.le_of_ble_eq_true rfl) rfl (by omega) ?_
  intro p e s m below meth c ls C hin hs hW hl
  refine lv_aload_n C.1 C.2.1 dX5_init_0 rfl (lv_at hl 0 rfl) ?_
  refine W.objInit C.1 C.2.1 C.2.2.2.1 (C.2.2.2.2.1 _ (gm_1 166 rfl rfl)) (C.2.2.2.2.1 _ ob_1) (C.2.2.2.2.1 _ ob_2) rfl (hl.1.trans C.2.2.1.symm) rfl dX5_init_1 (Nat.le_of_ble_eq_true rfl) (Nat.le_of_ble_eq_true rfl) ?_
  refine W.eq (g2 := F0 m 4 ls []) rfl ?_
  refine lv_aload_n C.1 C.2.1 dX5_init_4 rfl (lv_at hl 0 rfl) ?_
  refine lv_bipush C.1 C.2.1 dX5_init_5 bp_24 ?_
  obtain ⟨hg9, hf⟩ := gd hf
  have hk10 := okA_spec hg9
  refine mc_newarr (kd := 13) (k0 := 1) C hW (by omega) (by decide) (by omega) hk10.1 hk10.2.1 (mcell_i hk10.2.1) rfl rfl (fun _ h => by cases h) (fun _ => by rw [wip_I]; rfl) (gm_1 59 rfl rfl) hk10.2.2.1 hk10.2.2.2.1 hk10.2.2.2.2 (by decide) (Nat.le_of_ble_eq_true rfl) (Nat.le_of_ble_eq_true rfl) dX5_init_7 (fun H hW => ?_)
  refine W.widen (k := 1) (n := 1000) (Nat.le_refl _) (Nat.le_refl _) ?_
  have hW : mWb false G (shn shX (n + 1)) (Lq B 99) (wip S (n + 0)) (mcA shX B 99 n) s H _ := hW
  refine m_putrF C hin hW ⟨(by show a0 < n + 1; omega), ka0⟩ ffX5_13 (by decide) (Or.inr ⟨_, rfl⟩) ⟨(by show (n + 0) < n + 1; omega), hk10.2.1⟩ dX5_init_9 (fun H locs hW => ?_)
  refine lv_aload_n C.1 C.2.1 dX5_init_12 rfl (lv_at hl 0 rfl) ?_
  refine lv_bipush C.1 C.2.1 dX5_init_13 bp_72 ?_
  obtain ⟨hg11, hf⟩ := gd hf
  have hk12 := okA_spec hg11
  refine mc_newarr (kd := 13) (k0 := 1) C hW (by omega) (by decide) (by omega) hk12.1 hk12.2.1 (mcell_i hk12.2.1) rfl rfl (fun _ h => by cases h) (fun _ => by rw [wip_I]; rfl) (gm_1 59 rfl rfl) hk12.2.2.1 hk12.2.2.2.1 hk12.2.2.2.2 (by decide) (Nat.le_of_ble_eq_true rfl) (Nat.le_of_ble_eq_true rfl) dX5_init_15 (fun H hW => ?_)
  refine W.widen (k := 2) (n := 2000) (Nat.le_refl _) (Nat.le_refl _) ?_
  have hW : mWb false G (shn shX (n + 2)) (Lq B 99) (wip (pR (wip S (n + 0)) a0 0 (n + 0)) (n + 1)) (mcA shX B 99 n) s H _ := hW
  refine m_putrF C hin hW ⟨(by show a0 < n + 2; omega), ka0⟩ ffX5_17 (by decide) (Or.inr ⟨_, rfl⟩) ⟨(by show (n + 1) < n + 2; omega), hk12.2.1⟩ dX5_init_17 (fun H locs hW => ?_)
  refine lv_aload_n C.1 C.2.1 dX5_init_20 rfl (lv_at hl 0 rfl) ?_
  refine lv_iconst C.1 C.2.1 dX5_init_21 ic_0 ?_
  obtain ⟨hg13, hf⟩ := gd hf
  have hk14 := okA_spec hg13
  refine mc_newarr (kd := 12) (k0 := 0) C hW (by omega) (by decide) (by omega) hk14.1 hk14.2.1 (mcell_b hk14.2.1) rfl rfl (fun _ h => by cases h) (fun _ => by rw [wip_I]; rfl) (gm_1 57 rfl rfl) hk14.2.2.1 hk14.2.2.2.1 hk14.2.2.2.2 (by decide) (Nat.le_of_ble_eq_true rfl) (Nat.le_of_ble_eq_true rfl) dX5_init_22 (fun H hW => ?_)
  refine W.widen (k := 3) (n := 3000) (Nat.le_refl _) (Nat.le_refl _) ?_
  have hW : mWb false G (shn shX (n + 3)) (Lq B 99) (wip (pR (wip (pR (wip S (n + 0)) a0 0 (n + 0)) (n + 1)) a0 1 (n + 1)) (n + 2)) (mcA shX B 99 n) s H _ := hW
  refine m_putr C hW ⟨(by show a0 < n + 3; omega), ka0⟩ fpX5_20 (by decide) (Or.inr ⟨_, rfl⟩) ⟨(by show (n + 2) < n + 3; omega), hk14.2.1⟩ dX5_init_24 (fun H locs hW => ?_)
  refine lv_aload_n C.1 C.2.1 dX5_init_27 rfl (lv_at hl 0 rfl) ?_
  refine lv_aload_n C.1 C.2.1 dX5_init_28 rfl (lv_at hl 1 rfl) ?_
  refine m_putr C hW ⟨(by show a0 < n + 3; omega), ka0⟩ fpX5_24 (by decide) (Or.inl ⟨_, rfl⟩) ⟨(by show a1 < n + 3; omega), ka1⟩ dX5_init_29 (fun H locs hW => ?_)
  refine lv_aload_n C.1 C.2.1 dX5_init_32 rfl (lv_at hl 0 rfl) ?_
  refine lv_aload_n C.1 C.2.1 dX5_init_33 rfl (lv_at hl 1 rfl) ?_
  obtain ⟨hn15, hf⟩ := nz hf
  refine m_getrb C hW ⟨(by show a1 < n + 3; omega), ka1⟩ flX5_28 (by decide) (fun _ => hn15) dX5_init_34 (fun hk16 => ?_)
  have hl17 : gR (pR (pR (wip (pR (wip (pR (wip S (n + 0)) a0 0 (n + 0)) (n + 1)) a0 1 (n + 1)) (n + 2)) a0 2 (n + 2)) a0 9 a1) a1 7 < n + 3 := hk16.1
  refine lv_iconst C.1 C.2.1 dX5_init_37 ic_0 ?_
  obtain ⟨hb18, hf⟩ := gd hf
  obtain ⟨hn19, hf⟩ := nz hf
  refine m_aaldb (kt := 1) C hW ⟨(by show gR (pR (pR (wip (pR (wip (pR (wip S (n + 0)) a0 0 (n + 0)) (n + 1)) a0 1 (n + 1)) (n + 2)) a0 2 (n + 2)) a0 9 a1) a1 7 < n + 3; omega), hk16.2⟩ (by decide) hb18 (fun _ => hn19) dX5_init_38 (fun hk20 => ?_)
  have hl21 : gR (pR (pR (wip (pR (wip (pR (wip S (n + 0)) a0 0 (n + 0)) (n + 1)) a0 1 (n + 1)) (n + 2)) a0 2 (n + 2)) a0 9 a1) (gR (pR (pR (wip (pR (wip (pR (wip S (n + 0)) a0 0 (n + 0)) (n + 1)) a0 1 (n + 1)) (n + 2)) a0 2 (n + 2)) a0 9 a1) a1 7) (0 : Int32).toNatClampNeg < n + 3 := hk20.1
  refine m_putr C hW ⟨(by show a0 < n + 3; omega), ka0⟩ fpX5_34 (by decide) (Or.inl ⟨_, rfl⟩) ⟨(by show gR (pR (pR (wip (pR (wip (pR (wip S (n + 0)) a0 0 (n + 0)) (n + 1)) a0 1 (n + 1)) (n + 2)) a0 2 (n + 2)) a0 9 a1) (gR (pR (pR (wip (pR (wip (pR (wip S (n + 0)) a0 0 (n + 0)) (n + 1)) a0 1 (n + 1)) (n + 2)) a0 2 (n + 2)) a0 9 a1) a1 7) (0 : Int32).toNatClampNeg < n + 3; omega), hk20.2⟩ dX5_init_39 (fun H locs hW => ?_)
  exact kX5_init_42 C hin hs hn0 hnN a0 _ _ _ _ (by omega) ka0 hW (lv_sub hl [0] rfl) hf

def fX10_init_151 (n : Nat) (x0 : Nat) (S : MS) : Option MS := (if (noNull shX S && decide (n = 1 ∧ x0 = 0)) = true then (fX8_clean (gR S 0 1) S).bind fun q4 => (fX10_startAnew 0 q4).bind fun q6 => some q6 else none)
def fX10_init (n : Nat) (a0 : Nat) (S : MS) : Option MS := (if decide (n + 98 ≤ 99) = true then (if okA shX (n + 0) 12 (700 : Int32) = true then (if okO shX (n + 1) 8 = true then (fX8_init (n + 2) (n + 1) (wip (pR (wip S (n + 0)) a0 0 (n + 0)) (n + 1))).bind fun q12 => (if okO shX (n + 24) 8 = true then (fX8_init (n + 25) (n + 24) (wip (pR q12 a0 1 (n + 1)) (n + 24))).bind fun q16 => (if okO shX (n + 47) 5 = true then (if gR (wip (pR q16 a0 2 (n + 24)) (n + 47)) a0 2 = nul then none else (fX5_init (n + 48) (n + 47) (gR (wip (pR q16 a0 2 (n + 24)) (n + 47)) a0 2) (wip (pR q16 a0 2 (n + 24)) (n + 47))).bind fun q23 => (if okO shX (n + 51) 0 = true then (if gR (wip (pR q23 a0 3 (n + 47)) (n + 51)) a0 1 = nul then none else (fX0_init (n + 52) (n + 51) (gR (wip (pR q23 a0 3 (n + 47)) (n + 51)) a0 1) (wip (pR q23 a0 3 (n + 47)) (n + 51))).bind fun q30 => (if okO shX (n + 53) 4 = true then (if gR (wip (pR q30 a0 4 (n + 51)) (n + 53)) a0 4 = nul then none else (fX4_init (n + 54) (n + 53) (gR (wip (pR q30 a0 4 (n + 51)) (n + 53)) a0 4) (wip (pR q30 a0 4 (n + 51)) (n + 53))).bind fun q37 => (if okO shX (n + 77) 3 = true then (fX3_init (n + 78) (n + 77) (wip (pR q37 a0 5 (n + 53)) (n + 77))).bind fun q41 => (if okO shX (n + 80) 2 = true then (fX2_init (n + 81) (n + 80) (wip (pR q41 a0 6 (n + 77)) (n + 80))).bind fun q45 => (if okO shX (n + 82) 6 = true then (fX6_init (n + 83) (n + 82) (wip (pR q45 a0 7 (n + 80)) (n + 82))).bind fun q49 => (if okO shX (n + 86) 9 = true then (fX9_init (n + 87) (n + 86) (wip (pR q49 a0 8 (n + 82)) (n + 86))).bind fun q53 => (if okO shX (n + 90) 9 = true then (fX9_init (n + 91) (n + 90) (wip (pR q53 a0 9 (n + 86)) (n + 90))).bind fun q57 => (if okO shX (n + 94) 9 = true then (fX9_init (n + 95) (n + 94) (wip (pR q57 a0 10 (n + 90)) (n + 94))).bind fun q61 => fX10_init_151 n a0 (pI (pR q61 a0 11 (n + 94)) a0 14 (-1 : Int32)) else none) else none) else none) else none) else none) else none)) else none)) else none)) else none) else none) else none) else none) else none)
set_option maxRecDepth 100000 in
theorem kX10_init_151 {p : Program} {l : Launch} {e : Env} {s : State} {m : MethodId} {av : Array Value} {below : List Frame} {meth : Method} {c : Code} {G : Gv} {B n : Nat} {q : MS} (C : mC p s m av meth c cX10_init RX10 1 none) (hin : meth.name = "<init>") (hs : s.heap.size = B + n) (hn0 : 0 < n) (hnN : n + 98 ≤ 99) : ∀ (x0 : Nat) (S : MS) (H : Heap) (locs : List Loc) (ls : Array Slot), (x0 < n + 98) → (kdX x0 = 10) → mWb false G (shn shX (n + 98)) (Lq B 99) S (mcA shX B 99 n) s H locs → lv_has ls 1 [(0, .ref (ad (Lq B 99) x0))] → fX10_init_151 n x0 S = some q → W p l e (rmC 6 98 68300) s m av below meth c H locs 98 68300 (MQ below (mQ G shX (Lq B 99) q none (mcA shX B 99 n)) av s 98 68300 (mcA shX B 99 n)) (F0 m 151 ls []) := by
  intro x0 S H locs ls lx0 hx0 hW hl hf
  unfold fX10_init_151 at hf
  obtain ⟨hu, hg⟩ := gd hf
  clear hf
  have hu2 := Bool.and_eq_true_iff.mp hu
  clear hu
  obtain ⟨rfl, rfl⟩ := of_decide_eq_true hu2.2
  have hf := hg
  clear hg
  have hW := mW_up (sh := shX) hW mrk80X hu2.1
  refine lv_aload_n C.1 C.2.1 dX10_init_151 rfl (lv_at hl 0 rfl) ?_
  refine m_getr C hW (show 0 < shX.1 ∧ shX.2.1 0 = 10 from ⟨by decide, rfl⟩) flX10_16 (by decide) dX10_init_152 (fun hk2 => ?_)
  obtain ⟨q4, h5, hf⟩ := bd hf
  refine mc_callV (As := []) (rest := []) C hW hk2 (cX8_clean_ok hk2 h5) mlX10_86 (by decide) rfl hl.1 rfl (Nat.le_of_ble_eq_true rfl) (Nat.le_of_ble_eq_true rfl) (Nat.le_of_ble_eq_true rfl) (Nat.le_of_ble_eq_true rfl) (Nat.le_of_ble_eq_true rfl) dX10_init_155 (fun H locs hW => ?_)
  refine lv_aload_n C.1 C.2.1 dX10_init_158 rfl (lv_at hl 0 rfl) ?_
  obtain ⟨q6, h7, hf⟩ := bd hf
  refine mc_callV (As := []) (rest := []) C hW (show 0 < shX.1 ∧ shX.2.1 0 = 10 from ⟨by decide, rfl⟩) (cX10_startAnew_ok (show 0 < shX.1 ∧ shX.2.1 0 = 10 from ⟨by decide, rfl⟩) h7) mlX10_89 (by decide) rfl hl.1 rfl (Nat.le_of_ble_eq_true rfl) (Nat.le_of_ble_eq_true rfl) (Nat.le_of_ble_eq_true rfl) (Nat.le_of_ble_eq_true rfl) (Nat.le_of_ble_eq_true rfl) dX10_init_159 (fun H locs hW => ?_)
  cases hf
  exact mc_retS C hW dX10_init_162

set_option maxRecDepth 100000 in
theorem cX10_init_ok {l : Launch} {G : Gv} {B n : Nat} {S : MS} {a0 : Nat} {q : MS} (la0 : a0 < n) (ka0 : kdX a0 = 10) (hf : fX10_init n a0 S = some q) : MtD l yX10_init cX10_init 1 6 98 68300 G shX B 99 n S [.ref (ad (Lq B 99) a0)] q := by
  unfold fX10_init at hf
  obtain ⟨hz0, hf⟩ := gd hf
  have hnN := of_decide_eq_true hz0
  have hn0 : 0 < n := by omega
  refine md_enter (lv := [(0, .ref (ad (Lq B 99) a0))]) (by decide) rfl (Nat.le_of_ble_eq_true rfl) rfl (by omega) ?_
  intro p e s m below meth c ls C hin hs hW hl
  refine lv_aload_n C.1 C.2.1 dX10_init_0 rfl (lv_at hl 0 rfl) ?_
  refine W.objInit C.1 C.2.1 C.2.2.2.1 (C.2.2.2.2.1 _ (gm_1 29 rfl rfl)) (C.2.2.2.2.1 _ ob_1) (C.2.2.2.2.1 _ ob_2) rfl (hl.1.trans C.2.2.1.symm) rfl dX10_init_1 (Nat.le_of_ble_eq_true rfl) (Nat.le_of_ble_eq_true rfl) ?_
  refine W.eq (g2 := F0 m 4 ls []) rfl ?_
  refine lv_aload_n C.1 C.2.1 dX10_init_4 rfl (lv_at hl 0 rfl) ?_
  refine lv_sipush C.1 C.2.1 dX10_init_5 sp_700 ?_
  obtain ⟨hg8, hf⟩ := gd hf
  have hk9 := okA_spec hg8
  refine mc_newarr (kd := 12) (k0 := 0) C hW (by omega) (by decide) (by omega) hk9.1 hk9.2.1 (mcell_b hk9.2.1) rfl rfl (fun _ h => by cases h) (fun _ => by rw [wip_I]; rfl) (gm_1 57 rfl rfl) hk9.2.2.1 hk9.2.2.2.1 hk9.2.2.2.2 (by decide) (Nat.le_of_ble_eq_true rfl) (Nat.le_of_ble_eq_true rfl) dX10_init_8 (fun H hW => ?_)
  refine W.widen (k := 1) (n := 1000) (Nat.le_refl _) (Nat.le_refl _) ?_
  have hW : mWb false G (shn shX (n + 1)) (Lq B 99) (wip S (n + 0)) (mcA shX B 99 n) s H _ := hW
  refine m_putrF C hin hW ⟨(by show a0 < n + 1; omega), ka0⟩ ffX10_9 (by decide) (Or.inr ⟨_, rfl⟩) ⟨(by show (n + 0) < n + 1; omega), hk9.2.1⟩ dX10_init_10 (fun H locs hW => ?_)
  refine lv_aload_n C.1 C.2.1 dX10_init_13 rfl (lv_at hl 0 rfl) ?_
  obtain ⟨hg10, hf⟩ := gd hf
  have hk11 := okO_spec hg10
  refine mc_new (ci := 8) C hW (by omega) (by decide) (by omega) hk11.1 hk11.2 nwX10_13 (Nat.le_of_ble_eq_true rfl) (Nat.le_of_ble_eq_true rfl) dX10_init_14 (fun H hW => ?_)
  refine W.widen (k := 2) (n := 1100) (Nat.le_refl _) (Nat.le_refl _) ?_
  have hW : mWb false G (shn shX (n + 2)) (Lq B 99) (wip (pR (wip S (n + 0)) a0 0 (n + 0)) (n + 1)) (mcA shX B 99 n) s H _ := hW
  refine lv_dup C.1 C.2.1 dX10_init_17 rfl ?_
  obtain ⟨q12, h13, hf⟩ := bd hf
  refine mc_callI (n' := n + 24) (As := []) (rest := [.ref (ad (Lq B 99) (n + 1)), .ref (ad (Lq B 99) a0)]) C hW (by omega) (by omega) (okN hnN) (okN hnN) (cX8_init_ok (by omega) hk11.2 h13) liX10_15 rfl hl.1 rfl (Nat.le_of_ble_eq_true rfl) (Nat.le_of_ble_eq_true rfl) (Nat.le_of_ble_eq_true rfl) (Nat.le_of_ble_eq_true rfl) (Nat.le_of_ble_eq_true rfl) dX10_init_18 (fun H locs hW => ?_)
  refine W.widen (k := 24) (n := 15900) (Nat.le_refl _) (Nat.le_refl _) ?_
  have hW : mWb false G (shn shX (n + 24)) (Lq B 99) q12 (mcA shX B 99 n) s H _ := hW
  refine m_putr C hW ⟨(by show a0 < n + 24; omega), ka0⟩ fpX10_16 (by decide) (Or.inl ⟨_, rfl⟩) ⟨(by show (n + 1) < n + 24; omega), hk11.2⟩ dX10_init_21 (fun H locs hW => ?_)
  refine lv_aload_n C.1 C.2.1 dX10_init_24 rfl (lv_at hl 0 rfl) ?_
  obtain ⟨hg14, hf⟩ := gd hf
  have hk15 := okO_spec hg14
  refine mc_new (ci := 8) C hW (by omega) (by decide) (by omega) hk15.1 hk15.2 nwX10_13 (Nat.le_of_ble_eq_true rfl) (Nat.le_of_ble_eq_true rfl) dX10_init_25 (fun H hW => ?_)
  refine W.widen (k := 25) (n := 16000) (Nat.le_refl _) (Nat.le_refl _) ?_
  have hW : mWb false G (shn shX (n + 25)) (Lq B 99) (wip (pR q12 a0 1 (n + 1)) (n + 24)) (mcA shX B 99 n) s H _ := hW
  refine lv_dup C.1 C.2.1 dX10_init_28 rfl ?_
  obtain ⟨q16, h17, hf⟩ := bd hf
  refine mc_callI (n' := n + 47) (As := []) (rest := [.ref (ad (Lq B 99) (n + 24)), .ref (ad (Lq B 99) a0)]) C hW (by omega) (by omega) (okN hnN) (okN hnN) (cX8_init_ok (by omega) hk15.2 h17) liX10_15 rfl hl.1 rfl (Nat.le_of_ble_eq_true rfl) (Nat.le_of_ble_eq_true rfl) (Nat.le_of_ble_eq_true rfl) (Nat.le_of_ble_eq_true rfl) (Nat.le_of_ble_eq_true rfl) dX10_init_29 (fun H locs hW => ?_)
  refine W.widen (k := 47) (n := 30800) (Nat.le_refl _) (Nat.le_refl _) ?_
  have hW : mWb false G (shn shX (n + 47)) (Lq B 99) q16 (mcA shX B 99 n) s H _ := hW
  refine m_putr C hW ⟨(by show a0 < n + 47; omega), ka0⟩ fpX10_20 (by decide) (Or.inl ⟨_, rfl⟩) ⟨(by show (n + 24) < n + 47; omega), hk15.2⟩ dX10_init_32 (fun H locs hW => ?_)
  refine lv_aload_n C.1 C.2.1 dX10_init_35 rfl (lv_at hl 0 rfl) ?_
  obtain ⟨hg18, hf⟩ := gd hf
  have hk19 := okO_spec hg18
  refine mc_new (ci := 5) C hW (by omega) (by decide) (by omega) hk19.1 hk19.2 nwX10_23 (Nat.le_of_ble_eq_true rfl) (Nat.le_of_ble_eq_true rfl) dX10_init_36 (fun H hW => ?_)
  refine W.widen (k := 48) (n := 30900) (Nat.le_refl _) (Nat.le_refl _) ?_
  have hW : mWb false G (shn shX (n + 48)) (Lq B 99) (wip (pR q16 a0 2 (n + 24)) (n + 47)) (mcA shX B 99 n) s H _ := hW
  refine lv_dup C.1 C.2.1 dX10_init_39 rfl ?_
  refine lv_aload_n C.1 C.2.1 dX10_init_40 rfl (lv_at hl 0 rfl) ?_
  obtain ⟨hn20, hf⟩ := nz hf
  refine m_getrb C hW ⟨(by show a0 < n + 48; omega), ka0⟩ flX10_20 (by decide) (fun _ => hn20) dX10_init_41 (fun hk21 => ?_)
  have hl22 : gR (wip (pR q16 a0 2 (n + 24)) (n + 47)) a0 2 < n + 48 := hk21.1
  obtain ⟨q23, h24, hf⟩ := bd hf
  refine mc_callI (n' := n + 51) (As := [.ref (ad (Lq B 99) (gR (wip (pR q16 a0 2 (n + 24)) (n + 47)) a0 2))]) (rest := [.ref (ad (Lq B 99) (n + 47)), .ref (ad (Lq B 99) a0)]) C hW (by omega) (by omega) (okN hnN) (okN hnN) (cX5_init_ok (by omega) hk19.2 (by omega) hk21.2 h24) liX10_25 rfl hl.1 rfl (Nat.le_of_ble_eq_true rfl) (Nat.le_of_ble_eq_true rfl) (Nat.le_of_ble_eq_true rfl) (Nat.le_of_ble_eq_true rfl) (Nat.le_of_ble_eq_true rfl) dX10_init_44 (fun H locs hW => ?_)
  refine W.widen (k := 51) (n := 33900) (Nat.le_refl _) (Nat.le_refl _) ?_
  have hW : mWb false G (shn shX (n + 51)) (Lq B 99) q23 (mcA shX B 99 n) s H _ := hW
  refine m_putrF C hin hW ⟨(by show a0 < n + 51; omega), ka0⟩ ffX10_28 (by decide) (Or.inl ⟨_, rfl⟩) ⟨(by show (n + 47) < n + 51; omega), hk19.2⟩ dX10_init_47 (fun H locs hW => ?_)
  refine lv_aload_n C.1 C.2.1 dX10_init_50 rfl (lv_at hl 0 rfl) ?_
  obtain ⟨hg25, hf⟩ := gd hf
  have hk26 := okO_spec hg25
  refine mc_new (ci := 0) C hW (by omega) (by decide) (by omega) hk26.1 hk26.2 nwX10_32 (Nat.le_of_ble_eq_true rfl) (Nat.le_of_ble_eq_true rfl) dX10_init_51 (fun H hW => ?_)
  refine W.widen (k := 52) (n := 34000) (Nat.le_refl _) (Nat.le_refl _) ?_
  have hW : mWb false G (shn shX (n + 52)) (Lq B 99) (wip (pR q23 a0 3 (n + 47)) (n + 51)) (mcA shX B 99 n) s H _ := hW
  refine lv_dup C.1 C.2.1 dX10_init_54 rfl ?_
  refine lv_aload_n C.1 C.2.1 dX10_init_55 rfl (lv_at hl 0 rfl) ?_
  obtain ⟨hn27, hf⟩ := nz hf
  refine m_getrb C hW ⟨(by show a0 < n + 52; omega), ka0⟩ flX10_16 (by decide) (fun _ => hn27) dX10_init_56 (fun hk28 => ?_)
  have hl29 : gR (wip (pR q23 a0 3 (n + 47)) (n + 51)) a0 1 < n + 52 := hk28.1
  obtain ⟨q30, h31, hf⟩ := bd hf
  refine mc_callI (n' := n + 53) (As := [.ref (ad (Lq B 99) (gR (wip (pR q23 a0 3 (n + 47)) (n + 51)) a0 1))]) (rest := [.ref (ad (Lq B 99) (n + 51)), .ref (ad (Lq B 99) a0)]) C hW (by omega) (by omega) (okN hnN) (okN hnN) (cX0_init_ok (by omega) hk26.2 (by omega) hk28.2 h31) liX10_34 rfl hl.1 rfl (Nat.le_of_ble_eq_true rfl) (Nat.le_of_ble_eq_true rfl) (Nat.le_of_ble_eq_true rfl) (Nat.le_of_ble_eq_true rfl) (Nat.le_of_ble_eq_true rfl) dX10_init_59 (fun H locs hW => ?_)
  refine W.widen (k := 53) (n := 35000) (Nat.le_refl _) (Nat.le_refl _) ?_
  have hW : mWb false G (shn shX (n + 53)) (Lq B 99) q30 (mcA shX B 99 n) s H _ := hW
  refine m_putrF C hin hW ⟨(by show a0 < n + 53; omega), ka0⟩ ffX10_35 (by decide) (Or.inl ⟨_, rfl⟩) ⟨(by show (n + 51) < n + 53; omega), hk26.2⟩ dX10_init_62 (fun H locs hW => ?_)
  refine lv_aload_n C.1 C.2.1 dX10_init_65 rfl (lv_at hl 0 rfl) ?_
  obtain ⟨hg32, hf⟩ := gd hf
  have hk33 := okO_spec hg32
  refine mc_new (ci := 4) C hW (by omega) (by decide) (by omega) hk33.1 hk33.2 nwX10_39 (Nat.le_of_ble_eq_true rfl) (Nat.le_of_ble_eq_true rfl) dX10_init_66 (fun H hW => ?_)
  refine W.widen (k := 54) (n := 35100) (Nat.le_refl _) (Nat.le_refl _) ?_
  have hW : mWb false G (shn shX (n + 54)) (Lq B 99) (wip (pR q30 a0 4 (n + 51)) (n + 53)) (mcA shX B 99 n) s H _ := hW
  refine lv_dup C.1 C.2.1 dX10_init_69 rfl ?_
  refine lv_aload_n C.1 C.2.1 dX10_init_70 rfl (lv_at hl 0 rfl) ?_
  obtain ⟨hn34, hf⟩ := nz hf
  refine m_getrb C hW ⟨(by show a0 < n + 54; omega), ka0⟩ flX10_35 (by decide) (fun _ => hn34) dX10_init_71 (fun hk35 => ?_)
  have hl36 : gR (wip (pR q30 a0 4 (n + 51)) (n + 53)) a0 4 < n + 54 := hk35.1
  obtain ⟨q37, h38, hf⟩ := bd hf
  refine mc_callI (n' := n + 77) (As := [.ref (ad (Lq B 99) (gR (wip (pR q30 a0 4 (n + 51)) (n + 53)) a0 4))]) (rest := [.ref (ad (Lq B 99) (n + 53)), .ref (ad (Lq B 99) a0)]) C hW (by omega) (by omega) (okN hnN) (okN hnN) (cX4_init_ok (by omega) hk33.2 (by omega) hk35.2 h38) liX10_41 rfl hl.1 rfl (Nat.le_of_ble_eq_true rfl) (Nat.le_of_ble_eq_true rfl) (Nat.le_of_ble_eq_true rfl) (Nat.le_of_ble_eq_true rfl) (Nat.le_of_ble_eq_true rfl) dX10_init_74 (fun H locs hW => ?_)
  refine W.widen (k := 77) (n := 53600) (Nat.le_refl _) (Nat.le_refl _) ?_
  have hW : mWb false G (shn shX (n + 77)) (Lq B 99) q37 (mcA shX B 99 n) s H _ := hW
  refine m_putrF C hin hW ⟨(by show a0 < n + 77; omega), ka0⟩ ffX10_44 (by decide) (Or.inl ⟨_, rfl⟩) ⟨(by show (n + 53) < n + 77; omega), hk33.2⟩ dX10_init_77 (fun H locs hW => ?_)
  refine lv_aload_n C.1 C.2.1 dX10_init_80 rfl (lv_at hl 0 rfl) ?_
  obtain ⟨hg39, hf⟩ := gd hf
  have hk40 := okO_spec hg39
  refine mc_new (ci := 3) C hW (by omega) (by decide) (by omega) hk40.1 hk40.2 nwX10_48 (Nat.le_of_ble_eq_true rfl) (Nat.le_of_ble_eq_true rfl) dX10_init_81 (fun H hW => ?_)
  refine W.widen (k := 78) (n := 53700) (Nat.le_refl _) (Nat.le_refl _) ?_
  have hW : mWb false G (shn shX (n + 78)) (Lq B 99) (wip (pR q37 a0 5 (n + 53)) (n + 77)) (mcA shX B 99 n) s H _ := hW
  refine lv_dup C.1 C.2.1 dX10_init_84 rfl ?_
  obtain ⟨q41, h42, hf⟩ := bd hf
  refine mc_callI (n' := n + 80) (As := []) (rest := [.ref (ad (Lq B 99) (n + 77)), .ref (ad (Lq B 99) a0)]) C hW (by omega) (by omega) (okN hnN) (okN hnN) (cX3_init_ok (by omega) hk40.2 h42) liX10_50 rfl hl.1 rfl (Nat.le_of_ble_eq_true rfl) (Nat.le_of_ble_eq_true rfl) (Nat.le_of_ble_eq_true rfl) (Nat.le_of_ble_eq_true rfl) (Nat.le_of_ble_eq_true rfl) dX10_init_85 (fun H locs hW => ?_)
  refine W.widen (k := 80) (n := 55700) (Nat.le_refl _) (Nat.le_refl _) ?_
  have hW : mWb false G (shn shX (n + 80)) (Lq B 99) q41 (mcA shX B 99 n) s H _ := hW
  refine m_putrF C hin hW ⟨(by show a0 < n + 80; omega), ka0⟩ ffX10_51 (by decide) (Or.inl ⟨_, rfl⟩) ⟨(by show (n + 77) < n + 80; omega), hk40.2⟩ dX10_init_88 (fun H locs hW => ?_)
  refine lv_aload_n C.1 C.2.1 dX10_init_91 rfl (lv_at hl 0 rfl) ?_
  obtain ⟨hg43, hf⟩ := gd hf
  have hk44 := okO_spec hg43
  refine mc_new (ci := 2) C hW (by omega) (by decide) (by omega) hk44.1 hk44.2 nwX10_55 (Nat.le_of_ble_eq_true rfl) (Nat.le_of_ble_eq_true rfl) dX10_init_92 (fun H hW => ?_)
  refine W.widen (k := 81) (n := 55800) (Nat.le_refl _) (Nat.le_refl _) ?_
  have hW : mWb false G (shn shX (n + 81)) (Lq B 99) (wip (pR q41 a0 6 (n + 77)) (n + 80)) (mcA shX B 99 n) s H _ := hW
  refine lv_dup C.1 C.2.1 dX10_init_95 rfl ?_
  obtain ⟨q45, h46, hf⟩ := bd hf
  refine mc_callI (n' := n + 82) (As := []) (rest := [.ref (ad (Lq B 99) (n + 80)), .ref (ad (Lq B 99) a0)]) C hW (by omega) (by omega) (okN hnN) (okN hnN) (cX2_init_ok (by omega) hk44.2 h46) liX10_57 rfl hl.1 rfl (Nat.le_of_ble_eq_true rfl) (Nat.le_of_ble_eq_true rfl) (Nat.le_of_ble_eq_true rfl) (Nat.le_of_ble_eq_true rfl) (Nat.le_of_ble_eq_true rfl) dX10_init_96 (fun H locs hW => ?_)
  refine W.widen (k := 82) (n := 56800) (Nat.le_refl _) (Nat.le_refl _) ?_
  have hW : mWb false G (shn shX (n + 82)) (Lq B 99) q45 (mcA shX B 99 n) s H _ := hW
  refine m_putrF C hin hW ⟨(by show a0 < n + 82; omega), ka0⟩ ffX10_58 (by decide) (Or.inl ⟨_, rfl⟩) ⟨(by show (n + 80) < n + 82; omega), hk44.2⟩ dX10_init_99 (fun H locs hW => ?_)
  refine lv_aload_n C.1 C.2.1 dX10_init_102 rfl (lv_at hl 0 rfl) ?_
  obtain ⟨hg47, hf⟩ := gd hf
  have hk48 := okO_spec hg47
  refine mc_new (ci := 6) C hW (by omega) (by decide) (by omega) hk48.1 hk48.2 nwX10_62 (Nat.le_of_ble_eq_true rfl) (Nat.le_of_ble_eq_true rfl) dX10_init_103 (fun H hW => ?_)
  refine W.widen (k := 83) (n := 56900) (Nat.le_refl _) (Nat.le_refl _) ?_
  have hW : mWb false G (shn shX (n + 83)) (Lq B 99) (wip (pR q45 a0 7 (n + 80)) (n + 82)) (mcA shX B 99 n) s H _ := hW
  refine lv_dup C.1 C.2.1 dX10_init_106 rfl ?_
  obtain ⟨q49, h50, hf⟩ := bd hf
  refine mc_callI (n' := n + 86) (As := []) (rest := [.ref (ad (Lq B 99) (n + 82)), .ref (ad (Lq B 99) a0)]) C hW (by omega) (by omega) (okN hnN) (okN hnN) (cX6_init_ok (by omega) hk48.2 h50) liX10_64 rfl hl.1 rfl (Nat.le_of_ble_eq_true rfl) (Nat.le_of_ble_eq_true rfl) (Nat.le_of_ble_eq_true rfl) (Nat.le_of_ble_eq_true rfl) (Nat.le_of_ble_eq_true rfl) dX10_init_107 (fun H locs hW => ?_)
  refine W.widen (k := 86) (n := 59000) (Nat.le_refl _) (Nat.le_refl _) ?_
  have hW : mWb false G (shn shX (n + 86)) (Lq B 99) q49 (mcA shX B 99 n) s H _ := hW
  refine m_putrF C hin hW ⟨(by show a0 < n + 86; omega), ka0⟩ ffX10_65 (by decide) (Or.inl ⟨_, rfl⟩) ⟨(by show (n + 82) < n + 86; omega), hk48.2⟩ dX10_init_110 (fun H locs hW => ?_)
  refine lv_aload_n C.1 C.2.1 dX10_init_113 rfl (lv_at hl 0 rfl) ?_
  obtain ⟨hg51, hf⟩ := gd hf
  have hk52 := okO_spec hg51
  refine mc_new (ci := 9) C hW (by omega) (by decide) (by omega) hk52.1 hk52.2 nwX10_69 (Nat.le_of_ble_eq_true rfl) (Nat.le_of_ble_eq_true rfl) dX10_init_114 (fun H hW => ?_)
  refine W.widen (k := 87) (n := 59100) (Nat.le_refl _) (Nat.le_refl _) ?_
  have hW : mWb false G (shn shX (n + 87)) (Lq B 99) (wip (pR q49 a0 8 (n + 82)) (n + 86)) (mcA shX B 99 n) s H _ := hW
  refine lv_dup C.1 C.2.1 dX10_init_117 rfl ?_
  obtain ⟨q53, h54, hf⟩ := bd hf
  refine mc_callI (n' := n + 90) (As := []) (rest := [.ref (ad (Lq B 99) (n + 86)), .ref (ad (Lq B 99) a0)]) C hW (by omega) (by omega) (okN hnN) (okN hnN) (cX9_init_ok (by omega) hk52.2 h54) liX10_71 rfl hl.1 rfl (Nat.le_of_ble_eq_true rfl) (Nat.le_of_ble_eq_true rfl) (Nat.le_of_ble_eq_true rfl) (Nat.le_of_ble_eq_true rfl) (Nat.le_of_ble_eq_true rfl) dX10_init_118 (fun H locs hW => ?_)
  refine W.widen (k := 90) (n := 62100) (Nat.le_refl _) (Nat.le_refl _) ?_
  have hW : mWb false G (shn shX (n + 90)) (Lq B 99) q53 (mcA shX B 99 n) s H _ := hW
  refine m_putrF C hin hW ⟨(by show a0 < n + 90; omega), ka0⟩ ffX10_72 (by decide) (Or.inl ⟨_, rfl⟩) ⟨(by show (n + 86) < n + 90; omega), hk52.2⟩ dX10_init_121 (fun H locs hW => ?_)
  refine lv_aload_n C.1 C.2.1 dX10_init_124 rfl (lv_at hl 0 rfl) ?_
  obtain ⟨hg55, hf⟩ := gd hf
  have hk56 := okO_spec hg55
  refine mc_new (ci := 9) C hW (by omega) (by decide) (by omega) hk56.1 hk56.2 nwX10_69 (Nat.le_of_ble_eq_true rfl) (Nat.le_of_ble_eq_true rfl) dX10_init_125 (fun H hW => ?_)
  refine W.widen (k := 91) (n := 62200) (Nat.le_refl _) (Nat.le_refl _) ?_
  have hW : mWb false G (shn shX (n + 91)) (Lq B 99) (wip (pR q53 a0 9 (n + 86)) (n + 90)) (mcA shX B 99 n) s H _ := hW
  refine lv_dup C.1 C.2.1 dX10_init_128 rfl ?_
  obtain ⟨q57, h58, hf⟩ := bd hf
  refine mc_callI (n' := n + 94) (As := []) (rest := [.ref (ad (Lq B 99) (n + 90)), .ref (ad (Lq B 99) a0)]) C hW (by omega) (by omega) (okN hnN) (okN hnN) (cX9_init_ok (by omega) hk56.2 h58) liX10_71 rfl hl.1 rfl (Nat.le_of_ble_eq_true rfl) (Nat.le_of_ble_eq_true rfl) (Nat.le_of_ble_eq_true rfl) (Nat.le_of_ble_eq_true rfl) (Nat.le_of_ble_eq_true rfl) dX10_init_129 (fun H locs hW => ?_)
  refine W.widen (k := 94) (n := 65200) (Nat.le_refl _) (Nat.le_refl _) ?_
  have hW : mWb false G (shn shX (n + 94)) (Lq B 99) q57 (mcA shX B 99 n) s H _ := hW
  refine m_putrF C hin hW ⟨(by show a0 < n + 94; omega), ka0⟩ ffX10_76 (by decide) (Or.inl ⟨_, rfl⟩) ⟨(by show (n + 90) < n + 94; omega), hk56.2⟩ dX10_init_132 (fun H locs hW => ?_)
  refine lv_aload_n C.1 C.2.1 dX10_init_135 rfl (lv_at hl 0 rfl) ?_
  obtain ⟨hg59, hf⟩ := gd hf
  have hk60 := okO_spec hg59
  refine mc_new (ci := 9) C hW (by omega) (by decide) (by omega) hk60.1 hk60.2 nwX10_69 (Nat.le_of_ble_eq_true rfl) (Nat.le_of_ble_eq_true rfl) dX10_init_136 (fun H hW => ?_)
  refine W.widen (k := 95) (n := 65300) (Nat.le_refl _) (Nat.le_refl _) ?_
  have hW : mWb false G (shn shX (n + 95)) (Lq B 99) (wip (pR q57 a0 10 (n + 90)) (n + 94)) (mcA shX B 99 n) s H _ := hW
  refine lv_dup C.1 C.2.1 dX10_init_139 rfl ?_
  obtain ⟨q61, h62, hf⟩ := bd hf
  refine mc_callI (n' := n + 98) (As := []) (rest := [.ref (ad (Lq B 99) (n + 94)), .ref (ad (Lq B 99) a0)]) C hW (by omega) (by omega) (okN hnN) (okN hnN) (cX9_init_ok (by omega) hk60.2 h62) liX10_71 rfl hl.1 rfl (Nat.le_of_ble_eq_true rfl) (Nat.le_of_ble_eq_true rfl) (Nat.le_of_ble_eq_true rfl) (Nat.le_of_ble_eq_true rfl) (Nat.le_of_ble_eq_true rfl) dX10_init_140 (fun H locs hW => ?_)
  refine W.widen (k := 98) (n := 68300) (Nat.le_refl _) (Nat.le_refl _) ?_
  have hW : mWb false G (shn shX (n + 98)) (Lq B 99) q61 (mcA shX B 99 n) s H _ := hW
  refine m_putrF C hin hW ⟨(by show a0 < n + 98; omega), ka0⟩ ffX10_79 (by decide) (Or.inl ⟨_, rfl⟩) ⟨(by show (n + 94) < n + 98; omega), hk60.2⟩ dX10_init_143 (fun H locs hW => ?_)
  refine lv_aload_n C.1 C.2.1 dX10_init_146 rfl (lv_at hl 0 rfl) ?_
  refine lv_iconst C.1 C.2.1 dX10_init_147 ic_m1 ?_
  refine m_puti C hW ⟨(by show a0 < n + 98; omega), ka0⟩ fpX10_82 dX10_init_148 (fun H locs hW => ?_)
  exact kX10_init_151 C hin hs hn0 hnN a0 _ _ _ _ (by omega) ka0 hW (lv_sub hl [0] rfl) hf

def fX11_init_515 (n : Nat) (x0 : Nat) (S : MS) : Option MS := (if (noNull shM S && decide (n = 1 ∧ x0 = 0)) = true then (fX11_begins 0 S).bind fun q1 => some q1 else none)
def fX11_init_462 (n : Nat) (x0 : Nat) (S : MS) : Option MS := (if okA shM (n + 41) 13 (24 : Int32) = true then (if okA shM (n + 42) 13 (24 : Int32) = true then (if okA shM (n + 43) 13 (24 : Int32) = true then (if okA shM (n + 44) 15 (24 : Int32) = true then (if okA shM (n + 45) 13 (24 : Int32) = true then (if okA shM (n + 46) 15 (24 : Int32) = true then fX11_init_515 n x0 (pR (wip (pR (wip (pR (wip (pR (wip (pR (wip (pR (wip (pI S x0 67 (-1 : Int32)) (n + 41)) x0 68 (n + 41)) (n + 42)) x0 69 (n + 42)) (n + 43)) x0 70 (n + 43)) (n + 44)) x0 71 (n + 44)) (n + 45)) x0 72 (n + 45)) (n + 46)) x0 73 (n + 46)) else none) else none) else none) else none) else none) else none)
def fX11_init_416 (n : Nat) (x0 : Nat) (S : MS) : Option MS := (if okA shM (n + 35) 13 (92 : Int32) = true then (if okA shM (n + 36) 13 (92 : Int32) = true then (if okA shM (n + 37) 13 (92 : Int32) = true then (if okA shM (n + 38) 13 (64 : Int32) = true then (if okA shM (n + 39) 13 (4 : Int32) = true then (if okA shM (n + 40) 13 (4 : Int32) = true then fX11_init_462 n x0 (pR (wip (pR (wip (pR (wip (pR (wip (pR (wip (pR (wip S (n + 35)) x0 52 (n + 35)) (n + 36)) x0 53 (n + 36)) (n + 37)) x0 54 (n + 37)) (n + 38)) x0 62 (n + 38)) (n + 39)) x0 63 (n + 39)) (n + 40)) x0 64 (n + 40)) else none) else none) else none) else none) else none) else none)
def fX11_init_368 (n : Nat) (x0 : Nat) (S : MS) : Option MS := (if okA shM (n + 29) 13 (23 : Int32) = true then (if okA shM (n + 30) 13 (23 : Int32) = true then (if okA shM (n + 31) 13 (23 : Int32) = true then (if okA shM (n + 32) 13 (23 : Int32) = true then (if okA shM (n + 33) 13 (23 : Int32) = true then (if okA shM (n + 34) 13 (23 : Int32) = true then fX11_init_416 n x0 (pR (wip (pR (wip (pR (wip (pR (wip (pR (wip (pR (wip S (n + 29)) x0 46 (n + 29)) (n + 30)) x0 47 (n + 30)) (n + 31)) x0 48 (n + 31)) (n + 32)) x0 49 (n + 32)) (n + 33)) x0 50 (n + 33)) (n + 34)) x0 51 (n + 34)) else none) else none) else none) else none) else none) else none)
def fX11_init_314 (n : Nat) (x0 : Nat) (S : MS) : Option MS := (if okA shM (n + 23) 13 (128 : Int32) = true then (if okA shM (n + 24) 14 (7 : Int32) = true then (if okA shM (n + 25) 14 (64 : Int32) = true then (if okA shM (n + 26) 13 (23 : Int32) = true then (if okA shM (n + 27) 13 (23 : Int32) = true then (if okA shM (n + 28) 13 (23 : Int32) = true then fX11_init_368 n x0 (pR (wip (pR (wip (pR (wip (pR (wip (pR (wip (pI (pR (wip S (n + 23)) x0 25 (n + 23)) x0 37 (-1 : Int32)) (n + 24)) x0 40 (n + 24)) (n + 25)) x0 41 (n + 25)) (n + 26)) x0 43 (n + 26)) (n + 27)) x0 44 (n + 27)) (n + 28)) x0 45 (n + 28)) else none) else none) else none) else none) else none) else none)
def fX11_init_265 (n : Nat) (x0 : Nat) (S : MS) : Option MS := (if okA shM (n + 17) 13 (8 : Int32) = true then (if okA shM (n + 18) 13 (8 : Int32) = true then (if okA shM (n + 19) 13 (8 : Int32) = true then (if okA shM (n + 20) 13 (6 : Int32) = true then (if okA shM (n + 21) 13 (6 : Int32) = true then (if okA shM (n + 22) 13 (128 : Int32) = true then fX11_init_314 n x0 (pR (wip (pR (wip (pR (wip (pR (wip (pR (wip (pR (wip S (n + 17)) x0 19 (n + 17)) (n + 18)) x0 20 (n + 18)) (n + 19)) x0 21 (n + 19)) (n + 20)) x0 22 (n + 20)) (n + 21)) x0 23 (n + 21)) (n + 22)) x0 24 (n + 22)) else none) else none) else none) else none) else none) else none)
def fX11_init_217 (n : Nat) (x0 : Nat) (S : MS) : Option MS := (if okA shM (n + 11) 13 (24 : Int32) = true then (if okA shM (n + 12) 13 (16 : Int32) = true then (if okA shM (n + 13) 13 (16 : Int32) = true then (if okA shM (n + 14) 13 (16 : Int32) = true then (if okA shM (n + 15) 13 (16 : Int32) = true then (if okA shM (n + 16) 13 (16 : Int32) = true then fX11_init_265 n x0 (pR (wip (pR (wip (pR (wip (pR (wip (pR (wip (pR (wip S (n + 11)) x0 13 (n + 11)) (n + 12)) x0 14 (n + 12)) (n + 13)) x0 15 (n + 13)) (n + 14)) x0 16 (n + 14)) (n + 15)) x0 17 (n + 15)) (n + 16)) x0 18 (n + 16)) else none) else none) else none) else none) else none) else none)
def fX11_init_161 (n : Nat) (x0 : Nat) (S : MS) : Option MS := (if okA shM (n + 4) 13 (12 : Int32) = true then (if okA shM (n + 5) 13 (12 : Int32) = true then (if okA shM (n + 6) 13 (8 : Int32) = true then (if okA shM (n + 7) 13 (8 : Int32) = true then (if okA shM (n + 8) 13 (8 : Int32) = true then (if okA shM (n + 9) 13 (8 : Int32) = true then (if okA shM (n + 10) 13 (24 : Int32) = true then fX11_init_217 n x0 (pR (wip (pR (wip (pR (wip (pR (wip (pR (wip (pR (wip (pR (wip S (n + 4)) x0 6 (n + 4)) (n + 5)) x0 7 (n + 5)) (n + 6)) x0 8 (n + 6)) (n + 7)) x0 9 (n + 7)) (n + 8)) x0 10 (n + 8)) (n + 9)) x0 11 (n + 9)) (n + 10)) x0 12 (n + 10)) else none) else none) else none) else none) else none) else none) else none)
def fX11_init_127 (n : Nat) (x0 : Nat) (y0 : Nat) (y1 : Nat) (S : MS) : Option MS := (if bnd (23 : Int32) (lnM y1) = true then (if bnd (24 : Int32) (lnM y1) = true then (if bnd (25 : Int32) (lnM y1) = true then (if okA shM (n + 2) 13 (16 : Int32) = true then (if okA shM (n + 3) 13 (12 : Int32) = true then fX11_init_161 n x0 (pR (wip (pR (wip (pR (pI (pI (pI S y1 ((23 : Int32).toNatClampNeg) (0 : Int32)) y1 ((24 : Int32).toNatClampNeg) (0 : Int32)) y1 ((25 : Int32).toNatClampNeg) (0 : Int32)) y0 3 y1) (n + 2)) x0 4 (n + 2)) (n + 3)) x0 5 (n + 3)) else none) else none) else none) else none) else none)
def fX11_init_102 (n : Nat) (x0 : Nat) (y0 : Nat) (y1 : Nat) (S : MS) : Option MS := (if bnd (18 : Int32) (lnM y1) = true then (if bnd (19 : Int32) (lnM y1) = true then (if bnd (20 : Int32) (lnM y1) = true then (if bnd (21 : Int32) (lnM y1) = true then (if bnd (22 : Int32) (lnM y1) = true then fX11_init_127 n x0 y0 y1 (pI (pI (pI (pI (pI S y1 ((18 : Int32).toNatClampNeg) (0 : Int32)) y1 ((19 : Int32).toNatClampNeg) (0 : Int32)) y1 ((20 : Int32).toNatClampNeg) (0 : Int32)) y1 ((21 : Int32).toNatClampNeg) (0 : Int32)) y1 ((22 : Int32).toNatClampNeg) (0 : Int32)) else none) else none) else none) else none) else none)
def fX11_init_77 (n : Nat) (x0 : Nat) (y0 : Nat) (y1 : Nat) (S : MS) : Option MS := (if bnd (13 : Int32) (lnM y1) = true then (if bnd (14 : Int32) (lnM y1) = true then (if bnd (15 : Int32) (lnM y1) = true then (if bnd (16 : Int32) (lnM y1) = true then (if bnd (17 : Int32) (lnM y1) = true then fX11_init_102 n x0 y0 y1 (pI (pI (pI (pI (pI S y1 ((13 : Int32).toNatClampNeg) (5 : Int32)) y1 ((14 : Int32).toNatClampNeg) (5 : Int32)) y1 ((15 : Int32).toNatClampNeg) (0 : Int32)) y1 ((16 : Int32).toNatClampNeg) (0 : Int32)) y1 ((17 : Int32).toNatClampNeg) (0 : Int32)) else none) else none) else none) else none) else none)
def fX11_init_52 (n : Nat) (x0 : Nat) (y0 : Nat) (y1 : Nat) (S : MS) : Option MS := (if bnd (8 : Int32) (lnM y1) = true then (if bnd (9 : Int32) (lnM y1) = true then (if bnd (10 : Int32) (lnM y1) = true then (if bnd (11 : Int32) (lnM y1) = true then (if bnd (12 : Int32) (lnM y1) = true then fX11_init_77 n x0 y0 y1 (pI (pI (pI (pI (pI S y1 ((8 : Int32).toNatClampNeg) (0 : Int32)) y1 ((9 : Int32).toNatClampNeg) (0 : Int32)) y1 ((10 : Int32).toNatClampNeg) (0 : Int32)) y1 ((11 : Int32).toNatClampNeg) (0 : Int32)) y1 ((12 : Int32).toNatClampNeg) (0 : Int32)) else none) else none) else none) else none) else none)
def fX11_init_30 (n : Nat) (x0 : Nat) (y0 : Nat) (y1 : Nat) (S : MS) : Option MS := (if bnd (3 : Int32) (lnM y1) = true then (if bnd (4 : Int32) (lnM y1) = true then (if bnd (5 : Int32) (lnM y1) = true then (if bnd (6 : Int32) (lnM y1) = true then (if bnd (7 : Int32) (lnM y1) = true then fX11_init_52 n x0 y0 y1 (pI (pI (pI (pI (pI S y1 ((3 : Int32).toNatClampNeg) (0 : Int32)) y1 ((4 : Int32).toNatClampNeg) (0 : Int32)) y1 ((5 : Int32).toNatClampNeg) (0 : Int32)) y1 ((6 : Int32).toNatClampNeg) (0 : Int32)) y1 ((7 : Int32).toNatClampNeg) (0 : Int32)) else none) else none) else none) else none) else none)
def fX11_init (n : Nat) (a0 : Nat) (S : MS) : Option MS := (if decide (n + 47 ≤ 48) = true then (if okA shM (n + 0) 13 (700 : Int32) = true then (if okA shM (n + 1) 13 (26 : Int32) = true then (if bnd (0 : Int32) (lnM (n + 1)) = true then (if bnd (1 : Int32) (lnM (n + 1)) = true then (if bnd (2 : Int32) (lnM (n + 1)) = true then fX11_init_30 n a0 a0 (n + 1) (pI (pI (pI (wip (pR (wip S (n + 0)) a0 1 (n + 0)) (n + 1)) (n + 1) ((0 : Int32).toNatClampNeg) (5 : Int32)) (n + 1) ((1 : Int32).toNatClampNeg) (5 : Int32)) (n + 1) ((2 : Int32).toNatClampNeg) (0 : Int32)) else none) else none) else none) else none) else none) else none)
set_option maxRecDepth 100000 in
theorem kX11_init_515 {p : Program} {l : Launch} {e : Env} {s : State} {m : MethodId} {av : Array Value} {below : List Frame} {meth : Method} {c : Code} {G : Gv} {B n : Nat} {q : MS} (C : mC p s m av meth c cX11_init RX11 1 none) (hin : meth.name = "<init>") (hs : s.heap.size = B + n) (hn0 : 0 < n) (hnN : n + 47 ≤ 48) : ∀ (x0 : Nat) (S : MS) (H : Heap) (locs : List Loc) (ls : Array Slot), (x0 < n + 47) → (kdM x0 = 11) → mWb false G (shn shM (n + 47)) (Lq B 48) S (mcA shM B 48 n) s H locs → lv_has ls 1 [(0, .ref (ad (Lq B 48) x0))] → fX11_init_515 n x0 S = some q → W p l e (rmC 3 47 47000) s m av below meth c H locs 47 47000 (MQ below (mQ G shM (Lq B 48) q none (mcA shM B 48 n)) av s 47 47000 (mcA shM B 48 n)) (F0 m 515 ls []) := by
  intro x0 S H locs ls lx0 hx0 hW hl hf
  unfold fX11_init_515 at hf
  obtain ⟨hu, hg⟩ := gd hf
  clear hf
  have hu2 := Bool.and_eq_true_iff.mp hu
  clear hu
  obtain ⟨rfl, rfl⟩ := of_decide_eq_true hu2.2
  have hf := hg
  clear hg
  have hW := mW_up (sh := shM) hW mrk80M hu2.1
  refine lv_aload_n C.1 C.2.1 dX11_init_515 rfl (lv_at hl 0 rfl) ?_
  obtain ⟨q1, h2, hf⟩ := bd hf
  refine mc_callV (As := []) (rest := []) C hW (show 0 < shM.1 ∧ shM.2.1 0 = 11 from ⟨by decide, rfl⟩) (cX11_begins_ok (show 0 < shM.1 ∧ shM.2.1 0 = 11 from ⟨by decide, rfl⟩) h2) mlX11_160 (by decide) rfl hl.1 rfl (Nat.le_of_ble_eq_true rfl) (Nat.le_of_ble_eq_true rfl) (Nat.le_of_ble_eq_true rfl) (Nat.le_of_ble_eq_true rfl) (Nat.le_of_ble_eq_true rfl) dX11_init_516 (fun H locs hW => ?_)
  cases hf
  exact mc_retS C hW dX11_init_519

set_option maxRecDepth 100000 in
theorem kX11_init_462 {p : Program} {l : Launch} {e : Env} {s : State} {m : MethodId} {av : Array Value} {below : List Frame} {meth : Method} {c : Code} {G : Gv} {B n : Nat} {q : MS} (C : mC p s m av meth c cX11_init RX11 1 none) (hin : meth.name = "<init>") (hs : s.heap.size = B + n) (hn0 : 0 < n) (hnN : n + 47 ≤ 48) : ∀ (x0 : Nat) (S : MS) (H : Heap) (locs : List Loc) (ls : Array Slot), (x0 < n + 41) → (kdM x0 = 11) → mWb false G (shn shM (n + 41)) (Lq B 48) S (mcA shM B 48 n) s H locs → lv_has ls 1 [(0, .ref (ad (Lq B 48) x0))] → fX11_init_462 n x0 S = some q → W p l e (rmC 3 47 47000) s m av below meth c H locs 41 41000 (MQ below (mQ G shM (Lq B 48) q none (mcA shM B 48 n)) av s 47 47000 (mcA shM B 48 n)) (F0 m 462 ls []) := by
  intro x0 S H locs ls lx0 hx0 hW hl hf
  unfold fX11_init_462 at hf
  refine lv_aload_n C.1 C.2.1 dX11_init_462 rfl (lv_at hl 0 rfl) ?_
  refine lv_iconst C.1 C.2.1 dX11_init_463 ic_m1 ?_
  refine m_puti C hW ⟨(by show x0 < n + 41; omega), hx0⟩ fpX11_138 dX11_init_464 (fun H locs hW => ?_)
  refine lv_aload_n C.1 C.2.1 dX11_init_467 rfl (lv_at hl 0 rfl) ?_
  refine lv_bipush C.1 C.2.1 dX11_init_468 bp_24 ?_
  obtain ⟨hg3, hf⟩ := gd hf
  have hk4 := okA_spec hg3
  refine mc_newarr (kd := 13) (k0 := 1) C hW (by omega) (by decide) (by omega) hk4.1 hk4.2.1 (mcell_i hk4.2.1) rfl rfl (fun _ h => by cases h) (fun _ => by rw [wip_I]; rfl) (gm_1 59 rfl rfl) hk4.2.2.1 hk4.2.2.2.1 hk4.2.2.2.2 (by decide) (Nat.le_of_ble_eq_true rfl) (Nat.le_of_ble_eq_true rfl) dX11_init_470 (fun H hW => ?_)
  refine W.widen (k := 42) (n := 42000) (Nat.le_refl _) (Nat.le_refl _) ?_
  have hW : mWb false G (shn shM (n + 42)) (Lq B 48) (wip (pI S x0 67 (-1 : Int32)) (n + 41)) (mcA shM B 48 n) s H _ := hW
  refine m_putrF C hin hW ⟨(by show x0 < n + 42; omega), hx0⟩ ffX11_141 (by decide) (Or.inr ⟨_, rfl⟩) ⟨(by show (n + 41) < n + 42; omega), hk4.2.1⟩ dX11_init_472 (fun H locs hW => ?_)
  refine lv_aload_n C.1 C.2.1 dX11_init_475 rfl (lv_at hl 0 rfl) ?_
  refine lv_bipush C.1 C.2.1 dX11_init_476 bp_24 ?_
  obtain ⟨hg5, hf⟩ := gd hf
  have hk6 := okA_spec hg5
  refine mc_newarr (kd := 13) (k0 := 1) C hW (by omega) (by decide) (by omega) hk6.1 hk6.2.1 (mcell_i hk6.2.1) rfl rfl (fun _ h => by cases h) (fun _ => by rw [wip_I]; rfl) (gm_1 59 rfl rfl) hk6.2.2.1 hk6.2.2.2.1 hk6.2.2.2.2 (by decide) (Nat.le_of_ble_eq_true rfl) (Nat.le_of_ble_eq_true rfl) dX11_init_478 (fun H hW => ?_)
  refine W.widen (k := 43) (n := 43000) (Nat.le_refl _) (Nat.le_refl _) ?_
  have hW : mWb false G (shn shM (n + 43)) (Lq B 48) (wip (pR (wip (pI S x0 67 (-1 : Int32)) (n + 41)) x0 68 (n + 41)) (n + 42)) (mcA shM B 48 n) s H _ := hW
  refine m_putrF C hin hW ⟨(by show x0 < n + 43; omega), hx0⟩ ffX11_144 (by decide) (Or.inr ⟨_, rfl⟩) ⟨(by show (n + 42) < n + 43; omega), hk6.2.1⟩ dX11_init_480 (fun H locs hW => ?_)
  refine lv_aload_n C.1 C.2.1 dX11_init_483 rfl (lv_at hl 0 rfl) ?_
  refine lv_bipush C.1 C.2.1 dX11_init_484 bp_24 ?_
  obtain ⟨hg7, hf⟩ := gd hf
  have hk8 := okA_spec hg7
  refine mc_newarr (kd := 13) (k0 := 1) C hW (by omega) (by decide) (by omega) hk8.1 hk8.2.1 (mcell_i hk8.2.1) rfl rfl (fun _ h => by cases h) (fun _ => by rw [wip_I]; rfl) (gm_1 59 rfl rfl) hk8.2.2.1 hk8.2.2.2.1 hk8.2.2.2.2 (by decide) (Nat.le_of_ble_eq_true rfl) (Nat.le_of_ble_eq_true rfl) dX11_init_486 (fun H hW => ?_)
  refine W.widen (k := 44) (n := 44000) (Nat.le_refl _) (Nat.le_refl _) ?_
  have hW : mWb false G (shn shM (n + 44)) (Lq B 48) (wip (pR (wip (pR (wip (pI S x0 67 (-1 : Int32)) (n + 41)) x0 68 (n + 41)) (n + 42)) x0 69 (n + 42)) (n + 43)) (mcA shM B 48 n) s H _ := hW
  refine m_putrF C hin hW ⟨(by show x0 < n + 44; omega), hx0⟩ ffX11_147 (by decide) (Or.inr ⟨_, rfl⟩) ⟨(by show (n + 43) < n + 44; omega), hk8.2.1⟩ dX11_init_488 (fun H locs hW => ?_)
  refine lv_aload_n C.1 C.2.1 dX11_init_491 rfl (lv_at hl 0 rfl) ?_
  refine lv_bipush C.1 C.2.1 dX11_init_492 bp_24 ?_
  obtain ⟨hg9, hf⟩ := gd hf
  have hk10 := okA_spec hg9
  refine mc_newarr (kd := 15) (k0 := 3) C hW (by omega) (by decide) (by omega) hk10.1 hk10.2.1 (mcell_z hk10.2.1) rfl rfl (fun _ h => by cases h) (fun _ => by rw [wip_I]; rfl) (gm_1 58 rfl rfl) hk10.2.2.1 hk10.2.2.2.1 hk10.2.2.2.2 (by decide) (Nat.le_of_ble_eq_true rfl) (Nat.le_of_ble_eq_true rfl) dX11_init_494 (fun H hW => ?_)
  refine W.widen (k := 45) (n := 45000) (Nat.le_refl _) (Nat.le_refl _) ?_
  have hW : mWb false G (shn shM (n + 45)) (Lq B 48) (wip (pR (wip (pR (wip (pR (wip (pI S x0 67 (-1 : Int32)) (n + 41)) x0 68 (n + 41)) (n + 42)) x0 69 (n + 42)) (n + 43)) x0 70 (n + 43)) (n + 44)) (mcA shM B 48 n) s H _ := hW
  refine m_putrF C hin hW ⟨(by show x0 < n + 45; omega), hx0⟩ ffX11_150 (by decide) (Or.inr ⟨_, rfl⟩) ⟨(by show (n + 44) < n + 45; omega), hk10.2.1⟩ dX11_init_496 (fun H locs hW => ?_)
  refine lv_aload_n C.1 C.2.1 dX11_init_499 rfl (lv_at hl 0 rfl) ?_
  refine lv_bipush C.1 C.2.1 dX11_init_500 bp_24 ?_
  obtain ⟨hg11, hf⟩ := gd hf
  have hk12 := okA_spec hg11
  refine mc_newarr (kd := 13) (k0 := 1) C hW (by omega) (by decide) (by omega) hk12.1 hk12.2.1 (mcell_i hk12.2.1) rfl rfl (fun _ h => by cases h) (fun _ => by rw [wip_I]; rfl) (gm_1 59 rfl rfl) hk12.2.2.1 hk12.2.2.2.1 hk12.2.2.2.2 (by decide) (Nat.le_of_ble_eq_true rfl) (Nat.le_of_ble_eq_true rfl) dX11_init_502 (fun H hW => ?_)
  refine W.widen (k := 46) (n := 46000) (Nat.le_refl _) (Nat.le_refl _) ?_
  have hW : mWb false G (shn shM (n + 46)) (Lq B 48) (wip (pR (wip (pR (wip (pR (wip (pR (wip (pI S x0 67 (-1 : Int32)) (n + 41)) x0 68 (n + 41)) (n + 42)) x0 69 (n + 42)) (n + 43)) x0 70 (n + 43)) (n + 44)) x0 71 (n + 44)) (n + 45)) (mcA shM B 48 n) s H _ := hW
  refine m_putrF C hin hW ⟨(by show x0 < n + 46; omega), hx0⟩ ffX11_154 (by decide) (Or.inr ⟨_, rfl⟩) ⟨(by show (n + 45) < n + 46; omega), hk12.2.1⟩ dX11_init_504 (fun H locs hW => ?_)
  refine lv_aload_n C.1 C.2.1 dX11_init_507 rfl (lv_at hl 0 rfl) ?_
  refine lv_bipush C.1 C.2.1 dX11_init_508 bp_24 ?_
  obtain ⟨hg13, hf⟩ := gd hf
  have hk14 := okA_spec hg13
  refine mc_newarr (kd := 15) (k0 := 3) C hW (by omega) (by decide) (by omega) hk14.1 hk14.2.1 (mcell_z hk14.2.1) rfl rfl (fun _ h => by cases h) (fun _ => by rw [wip_I]; rfl) (gm_1 58 rfl rfl) hk14.2.2.1 hk14.2.2.2.1 hk14.2.2.2.2 (by decide) (Nat.le_of_ble_eq_true rfl) (Nat.le_of_ble_eq_true rfl) dX11_init_510 (fun H hW => ?_)
  refine W.widen (k := 47) (n := 47000) (Nat.le_refl _) (Nat.le_refl _) ?_
  have hW : mWb false G (shn shM (n + 47)) (Lq B 48) (wip (pR (wip (pR (wip (pR (wip (pR (wip (pR (wip (pI S x0 67 (-1 : Int32)) (n + 41)) x0 68 (n + 41)) (n + 42)) x0 69 (n + 42)) (n + 43)) x0 70 (n + 43)) (n + 44)) x0 71 (n + 44)) (n + 45)) x0 72 (n + 45)) (n + 46)) (mcA shM B 48 n) s H _ := hW
  refine m_putrF C hin hW ⟨(by show x0 < n + 47; omega), hx0⟩ ffX11_157 (by decide) (Or.inr ⟨_, rfl⟩) ⟨(by show (n + 46) < n + 47; omega), hk14.2.1⟩ dX11_init_512 (fun H locs hW => ?_)
  exact kX11_init_515 C hin hs hn0 hnN x0 _ _ _ _ (by omega) hx0 hW (lv_sub hl [0] rfl) hf

set_option maxRecDepth 100000 in
theorem kX11_init_416 {p : Program} {l : Launch} {e : Env} {s : State} {m : MethodId} {av : Array Value} {below : List Frame} {meth : Method} {c : Code} {G : Gv} {B n : Nat} {q : MS} (C : mC p s m av meth c cX11_init RX11 1 none) (hin : meth.name = "<init>") (hs : s.heap.size = B + n) (hn0 : 0 < n) (hnN : n + 47 ≤ 48) : ∀ (x0 : Nat) (S : MS) (H : Heap) (locs : List Loc) (ls : Array Slot), (x0 < n + 35) → (kdM x0 = 11) → mWb false G (shn shM (n + 35)) (Lq B 48) S (mcA shM B 48 n) s H locs → lv_has ls 1 [(0, .ref (ad (Lq B 48) x0))] → fX11_init_416 n x0 S = some q → W p l e (rmC 3 47 47000) s m av below meth c H locs 35 35000 (MQ below (mQ G shM (Lq B 48) q none (mcA shM B 48 n)) av s 47 47000 (mcA shM B 48 n)) (F0 m 416 ls []) := by
  intro x0 S H locs ls lx0 hx0 hW hl hf
  unfold fX11_init_416 at hf
  refine lv_aload_n C.1 C.2.1 dX11_init_416 rfl (lv_at hl 0 rfl) ?_
  refine lv_bipush C.1 C.2.1 dX11_init_417 bp_92 ?_
  obtain ⟨hg15, hf⟩ := gd hf
  have hk16 := okA_spec hg15
  refine mc_newarr (kd := 13) (k0 := 1) C hW (by omega) (by decide) (by omega) hk16.1 hk16.2.1 (mcell_i hk16.2.1) rfl rfl (fun _ h => by cases h) (fun _ => by rw [wip_I]; rfl) (gm_1 59 rfl rfl) hk16.2.2.1 hk16.2.2.2.1 hk16.2.2.2.2 (by decide) (Nat.le_of_ble_eq_true rfl) (Nat.le_of_ble_eq_true rfl) dX11_init_419 (fun H hW => ?_)
  refine W.widen (k := 36) (n := 36000) (Nat.le_refl _) (Nat.le_refl _) ?_
  have hW : mWb false G (shn shM (n + 36)) (Lq B 48) (wip S (n + 35)) (mcA shM B 48 n) s H _ := hW
  refine m_putrF C hin hW ⟨(by show x0 < n + 36; omega), hx0⟩ ffX11_120 (by decide) (Or.inr ⟨_, rfl⟩) ⟨(by show (n + 35) < n + 36; omega), hk16.2.1⟩ dX11_init_421 (fun H locs hW => ?_)
  refine lv_aload_n C.1 C.2.1 dX11_init_424 rfl (lv_at hl 0 rfl) ?_
  refine lv_bipush C.1 C.2.1 dX11_init_425 bp_92 ?_
  obtain ⟨hg17, hf⟩ := gd hf
  have hk18 := okA_spec hg17
  refine mc_newarr (kd := 13) (k0 := 1) C hW (by omega) (by decide) (by omega) hk18.1 hk18.2.1 (mcell_i hk18.2.1) rfl rfl (fun _ h => by cases h) (fun _ => by rw [wip_I]; rfl) (gm_1 59 rfl rfl) hk18.2.2.1 hk18.2.2.2.1 hk18.2.2.2.2 (by decide) (Nat.le_of_ble_eq_true rfl) (Nat.le_of_ble_eq_true rfl) dX11_init_427 (fun H hW => ?_)
  refine W.widen (k := 37) (n := 37000) (Nat.le_refl _) (Nat.le_refl _) ?_
  have hW : mWb false G (shn shM (n + 37)) (Lq B 48) (wip (pR (wip S (n + 35)) x0 52 (n + 35)) (n + 36)) (mcA shM B 48 n) s H _ := hW
  refine m_putrF C hin hW ⟨(by show x0 < n + 37; omega), hx0⟩ ffX11_123 (by decide) (Or.inr ⟨_, rfl⟩) ⟨(by show (n + 36) < n + 37; omega), hk18.2.1⟩ dX11_init_429 (fun H locs hW => ?_)
  refine lv_aload_n C.1 C.2.1 dX11_init_432 rfl (lv_at hl 0 rfl) ?_
  refine lv_bipush C.1 C.2.1 dX11_init_433 bp_92 ?_
  obtain ⟨hg19, hf⟩ := gd hf
  have hk20 := okA_spec hg19
  refine mc_newarr (kd := 13) (k0 := 1) C hW (by omega) (by decide) (by omega) hk20.1 hk20.2.1 (mcell_i hk20.2.1) rfl rfl (fun _ h => by cases h) (fun _ => by rw [wip_I]; rfl) (gm_1 59 rfl rfl) hk20.2.2.1 hk20.2.2.2.1 hk20.2.2.2.2 (by decide) (Nat.le_of_ble_eq_true rfl) (Nat.le_of_ble_eq_true rfl) dX11_init_435 (fun H hW => ?_)
  refine W.widen (k := 38) (n := 38000) (Nat.le_refl _) (Nat.le_refl _) ?_
  have hW : mWb false G (shn shM (n + 38)) (Lq B 48) (wip (pR (wip (pR (wip S (n + 35)) x0 52 (n + 35)) (n + 36)) x0 53 (n + 36)) (n + 37)) (mcA shM B 48 n) s H _ := hW
  refine m_putrF C hin hW ⟨(by show x0 < n + 38; omega), hx0⟩ ffX11_126 (by decide) (Or.inr ⟨_, rfl⟩) ⟨(by show (n + 37) < n + 38; omega), hk20.2.1⟩ dX11_init_437 (fun H locs hW => ?_)
  refine lv_aload_n C.1 C.2.1 dX11_init_440 rfl (lv_at hl 0 rfl) ?_
  refine lv_bipush C.1 C.2.1 dX11_init_441 bp_64 ?_
  obtain ⟨hg21, hf⟩ := gd hf
  have hk22 := okA_spec hg21
  refine mc_newarr (kd := 13) (k0 := 1) C hW (by omega) (by decide) (by omega) hk22.1 hk22.2.1 (mcell_i hk22.2.1) rfl rfl (fun _ h => by cases h) (fun _ => by rw [wip_I]; rfl) (gm_1 59 rfl rfl) hk22.2.2.1 hk22.2.2.2.1 hk22.2.2.2.2 (by decide) (Nat.le_of_ble_eq_true rfl) (Nat.le_of_ble_eq_true rfl) dX11_init_443 (fun H hW => ?_)
  refine W.widen (k := 39) (n := 39000) (Nat.le_refl _) (Nat.le_refl _) ?_
  have hW : mWb false G (shn shM (n + 39)) (Lq B 48) (wip (pR (wip (pR (wip (pR (wip S (n + 35)) x0 52 (n + 35)) (n + 36)) x0 53 (n + 36)) (n + 37)) x0 54 (n + 37)) (n + 38)) (mcA shM B 48 n) s H _ := hW
  refine m_putrF C hin hW ⟨(by show x0 < n + 39; omega), hx0⟩ ffX11_129 (by decide) (Or.inr ⟨_, rfl⟩) ⟨(by show (n + 38) < n + 39; omega), hk22.2.1⟩ dX11_init_445 (fun H locs hW => ?_)
  refine lv_aload_n C.1 C.2.1 dX11_init_448 rfl (lv_at hl 0 rfl) ?_
  refine lv_iconst C.1 C.2.1 dX11_init_449 ic_4 ?_
  obtain ⟨hg23, hf⟩ := gd hf
  have hk24 := okA_spec hg23
  refine mc_newarr (kd := 13) (k0 := 1) C hW (by omega) (by decide) (by omega) hk24.1 hk24.2.1 (mcell_i hk24.2.1) rfl rfl (fun _ h => by cases h) (fun _ => by rw [wip_I]; rfl) (gm_1 59 rfl rfl) hk24.2.2.1 hk24.2.2.2.1 hk24.2.2.2.2 (by decide) (Nat.le_of_ble_eq_true rfl) (Nat.le_of_ble_eq_true rfl) dX11_init_450 (fun H hW => ?_)
  refine W.widen (k := 40) (n := 40000) (Nat.le_refl _) (Nat.le_refl _) ?_
  have hW : mWb false G (shn shM (n + 40)) (Lq B 48) (wip (pR (wip (pR (wip (pR (wip (pR (wip S (n + 35)) x0 52 (n + 35)) (n + 36)) x0 53 (n + 36)) (n + 37)) x0 54 (n + 37)) (n + 38)) x0 62 (n + 38)) (n + 39)) (mcA shM B 48 n) s H _ := hW
  refine m_putrF C hin hW ⟨(by show x0 < n + 40; omega), hx0⟩ ffX11_132 (by decide) (Or.inr ⟨_, rfl⟩) ⟨(by show (n + 39) < n + 40; omega), hk24.2.1⟩ dX11_init_452 (fun H locs hW => ?_)
  refine lv_aload_n C.1 C.2.1 dX11_init_455 rfl (lv_at hl 0 rfl) ?_
  refine lv_iconst C.1 C.2.1 dX11_init_456 ic_4 ?_
  obtain ⟨hg25, hf⟩ := gd hf
  have hk26 := okA_spec hg25
  refine mc_newarr (kd := 13) (k0 := 1) C hW (by omega) (by decide) (by omega) hk26.1 hk26.2.1 (mcell_i hk26.2.1) rfl rfl (fun _ h => by cases h) (fun _ => by rw [wip_I]; rfl) (gm_1 59 rfl rfl) hk26.2.2.1 hk26.2.2.2.1 hk26.2.2.2.2 (by decide) (Nat.le_of_ble_eq_true rfl) (Nat.le_of_ble_eq_true rfl) dX11_init_457 (fun H hW => ?_)
  refine W.widen (k := 41) (n := 41000) (Nat.le_refl _) (Nat.le_refl _) ?_
  have hW : mWb false G (shn shM (n + 41)) (Lq B 48) (wip (pR (wip (pR (wip (pR (wip (pR (wip (pR (wip S (n + 35)) x0 52 (n + 35)) (n + 36)) x0 53 (n + 36)) (n + 37)) x0 54 (n + 37)) (n + 38)) x0 62 (n + 38)) (n + 39)) x0 63 (n + 39)) (n + 40)) (mcA shM B 48 n) s H _ := hW
  refine m_putrF C hin hW ⟨(by show x0 < n + 41; omega), hx0⟩ ffX11_135 (by decide) (Or.inr ⟨_, rfl⟩) ⟨(by show (n + 40) < n + 41; omega), hk26.2.1⟩ dX11_init_459 (fun H locs hW => ?_)
  exact kX11_init_462 C hin hs hn0 hnN x0 _ _ _ _ (by omega) hx0 hW (lv_sub hl [0] rfl) hf

set_option maxRecDepth 100000 in
theorem kX11_init_368 {p : Program} {l : Launch} {e : Env} {s : State} {m : MethodId} {av : Array Value} {below : List Frame} {meth : Method} {c : Code} {G : Gv} {B n : Nat} {q : MS} (C : mC p s m av meth c cX11_init RX11 1 none) (hin : meth.name = "<init>") (hs : s.heap.size = B + n) (hn0 : 0 < n) (hnN : n + 47 ≤ 48) : ∀ (x0 : Nat) (S : MS) (H : Heap) (locs : List Loc) (ls : Array Slot), (x0 < n + 29) → (kdM x0 = 11) → mWb false G (shn shM (n + 29)) (Lq B 48) S (mcA shM B 48 n) s H locs → lv_has ls 1 [(0, .ref (ad (Lq B 48) x0))] → fX11_init_368 n x0 S = some q → W p l e (rmC 3 47 47000) s m av below meth c H locs 29 29000 (MQ below (mQ G shM (Lq B 48) q none (mcA shM B 48 n)) av s 47 47000 (mcA shM B 48 n)) (F0 m 368 ls []) := by
  intro x0 S H locs ls lx0 hx0 hW hl hf
  unfold fX11_init_368 at hf
  refine lv_aload_n C.1 C.2.1 dX11_init_368 rfl (lv_at hl 0 rfl) ?_
  refine lv_bipush C.1 C.2.1 dX11_init_369 bp_23 ?_
  obtain ⟨hg27, hf⟩ := gd hf
  have hk28 := okA_spec hg27
  refine mc_newarr (kd := 13) (k0 := 1) C hW (by omega) (by decide) (by omega) hk28.1 hk28.2.1 (mcell_i hk28.2.1) rfl rfl (fun _ h => by cases h) (fun _ => by rw [wip_I]; rfl) (gm_1 59 rfl rfl) hk28.2.2.1 hk28.2.2.2.1 hk28.2.2.2.2 (by decide) (Nat.le_of_ble_eq_true rfl) (Nat.le_of_ble_eq_true rfl) dX11_init_371 (fun H hW => ?_)
  refine W.widen (k := 30) (n := 30000) (Nat.le_refl _) (Nat.le_refl _) ?_
  have hW : mWb false G (shn shM (n + 30)) (Lq B 48) (wip S (n + 29)) (mcA shM B 48 n) s H _ := hW
  refine m_putrF C hin hW ⟨(by show x0 < n + 30; omega), hx0⟩ ffX11_102 (by decide) (Or.inr ⟨_, rfl⟩) ⟨(by show (n + 29) < n + 30; omega), hk28.2.1⟩ dX11_init_373 (fun H locs hW => ?_)
  refine lv_aload_n C.1 C.2.1 dX11_init_376 rfl (lv_at hl 0 rfl) ?_
  refine lv_bipush C.1 C.2.1 dX11_init_377 bp_23 ?_
  obtain ⟨hg29, hf⟩ := gd hf
  have hk30 := okA_spec hg29
  refine mc_newarr (kd := 13) (k0 := 1) C hW (by omega) (by decide) (by omega) hk30.1 hk30.2.1 (mcell_i hk30.2.1) rfl rfl (fun _ h => by cases h) (fun _ => by rw [wip_I]; rfl) (gm_1 59 rfl rfl) hk30.2.2.1 hk30.2.2.2.1 hk30.2.2.2.2 (by decide) (Nat.le_of_ble_eq_true rfl) (Nat.le_of_ble_eq_true rfl) dX11_init_379 (fun H hW => ?_)
  refine W.widen (k := 31) (n := 31000) (Nat.le_refl _) (Nat.le_refl _) ?_
  have hW : mWb false G (shn shM (n + 31)) (Lq B 48) (wip (pR (wip S (n + 29)) x0 46 (n + 29)) (n + 30)) (mcA shM B 48 n) s H _ := hW
  refine m_putrF C hin hW ⟨(by show x0 < n + 31; omega), hx0⟩ ffX11_105 (by decide) (Or.inr ⟨_, rfl⟩) ⟨(by show (n + 30) < n + 31; omega), hk30.2.1⟩ dX11_init_381 (fun H locs hW => ?_)
  refine lv_aload_n C.1 C.2.1 dX11_init_384 rfl (lv_at hl 0 rfl) ?_
  refine lv_bipush C.1 C.2.1 dX11_init_385 bp_23 ?_
  obtain ⟨hg31, hf⟩ := gd hf
  have hk32 := okA_spec hg31
  refine mc_newarr (kd := 13) (k0 := 1) C hW (by omega) (by decide) (by omega) hk32.1 hk32.2.1 (mcell_i hk32.2.1) rfl rfl (fun _ h => by cases h) (fun _ => by rw [wip_I]; rfl) (gm_1 59 rfl rfl) hk32.2.2.1 hk32.2.2.2.1 hk32.2.2.2.2 (by decide) (Nat.le_of_ble_eq_true rfl) (Nat.le_of_ble_eq_true rfl) dX11_init_387 (fun H hW => ?_)
  refine W.widen (k := 32) (n := 32000) (Nat.le_refl _) (Nat.le_refl _) ?_
  have hW : mWb false G (shn shM (n + 32)) (Lq B 48) (wip (pR (wip (pR (wip S (n + 29)) x0 46 (n + 29)) (n + 30)) x0 47 (n + 30)) (n + 31)) (mcA shM B 48 n) s H _ := hW
  refine m_putrF C hin hW ⟨(by show x0 < n + 32; omega), hx0⟩ ffX11_108 (by decide) (Or.inr ⟨_, rfl⟩) ⟨(by show (n + 31) < n + 32; omega), hk32.2.1⟩ dX11_init_389 (fun H locs hW => ?_)
  refine lv_aload_n C.1 C.2.1 dX11_init_392 rfl (lv_at hl 0 rfl) ?_
  refine lv_bipush C.1 C.2.1 dX11_init_393 bp_23 ?_
  obtain ⟨hg33, hf⟩ := gd hf
  have hk34 := okA_spec hg33
  refine mc_newarr (kd := 13) (k0 := 1) C hW (by omega) (by decide) (by omega) hk34.1 hk34.2.1 (mcell_i hk34.2.1) rfl rfl (fun _ h => by cases h) (fun _ => by rw [wip_I]; rfl) (gm_1 59 rfl rfl) hk34.2.2.1 hk34.2.2.2.1 hk34.2.2.2.2 (by decide) (Nat.le_of_ble_eq_true rfl) (Nat.le_of_ble_eq_true rfl) dX11_init_395 (fun H hW => ?_)
  refine W.widen (k := 33) (n := 33000) (Nat.le_refl _) (Nat.le_refl _) ?_
  have hW : mWb false G (shn shM (n + 33)) (Lq B 48) (wip (pR (wip (pR (wip (pR (wip S (n + 29)) x0 46 (n + 29)) (n + 30)) x0 47 (n + 30)) (n + 31)) x0 48 (n + 31)) (n + 32)) (mcA shM B 48 n) s H _ := hW
  refine m_putrF C hin hW ⟨(by show x0 < n + 33; omega), hx0⟩ ffX11_111 (by decide) (Or.inr ⟨_, rfl⟩) ⟨(by show (n + 32) < n + 33; omega), hk34.2.1⟩ dX11_init_397 (fun H locs hW => ?_)
  refine lv_aload_n C.1 C.2.1 dX11_init_400 rfl (lv_at hl 0 rfl) ?_
  refine lv_bipush C.1 C.2.1 dX11_init_401 bp_23 ?_
  obtain ⟨hg35, hf⟩ := gd hf
  have hk36 := okA_spec hg35
  refine mc_newarr (kd := 13) (k0 := 1) C hW (by omega) (by decide) (by omega) hk36.1 hk36.2.1 (mcell_i hk36.2.1) rfl rfl (fun _ h => by cases h) (fun _ => by rw [wip_I]; rfl) (gm_1 59 rfl rfl) hk36.2.2.1 hk36.2.2.2.1 hk36.2.2.2.2 (by decide) (Nat.le_of_ble_eq_true rfl) (Nat.le_of_ble_eq_true rfl) dX11_init_403 (fun H hW => ?_)
  refine W.widen (k := 34) (n := 34000) (Nat.le_refl _) (Nat.le_refl _) ?_
  have hW : mWb false G (shn shM (n + 34)) (Lq B 48) (wip (pR (wip (pR (wip (pR (wip (pR (wip S (n + 29)) x0 46 (n + 29)) (n + 30)) x0 47 (n + 30)) (n + 31)) x0 48 (n + 31)) (n + 32)) x0 49 (n + 32)) (n + 33)) (mcA shM B 48 n) s H _ := hW
  refine m_putrF C hin hW ⟨(by show x0 < n + 34; omega), hx0⟩ ffX11_114 (by decide) (Or.inr ⟨_, rfl⟩) ⟨(by show (n + 33) < n + 34; omega), hk36.2.1⟩ dX11_init_405 (fun H locs hW => ?_)
  refine lv_aload_n C.1 C.2.1 dX11_init_408 rfl (lv_at hl 0 rfl) ?_
  refine lv_bipush C.1 C.2.1 dX11_init_409 bp_23 ?_
  obtain ⟨hg37, hf⟩ := gd hf
  have hk38 := okA_spec hg37
  refine mc_newarr (kd := 13) (k0 := 1) C hW (by omega) (by decide) (by omega) hk38.1 hk38.2.1 (mcell_i hk38.2.1) rfl rfl (fun _ h => by cases h) (fun _ => by rw [wip_I]; rfl) (gm_1 59 rfl rfl) hk38.2.2.1 hk38.2.2.2.1 hk38.2.2.2.2 (by decide) (Nat.le_of_ble_eq_true rfl) (Nat.le_of_ble_eq_true rfl) dX11_init_411 (fun H hW => ?_)
  refine W.widen (k := 35) (n := 35000) (Nat.le_refl _) (Nat.le_refl _) ?_
  have hW : mWb false G (shn shM (n + 35)) (Lq B 48) (wip (pR (wip (pR (wip (pR (wip (pR (wip (pR (wip S (n + 29)) x0 46 (n + 29)) (n + 30)) x0 47 (n + 30)) (n + 31)) x0 48 (n + 31)) (n + 32)) x0 49 (n + 32)) (n + 33)) x0 50 (n + 33)) (n + 34)) (mcA shM B 48 n) s H _ := hW
  refine m_putrF C hin hW ⟨(by show x0 < n + 35; omega), hx0⟩ ffX11_117 (by decide) (Or.inr ⟨_, rfl⟩) ⟨(by show (n + 34) < n + 35; omega), hk38.2.1⟩ dX11_init_413 (fun H locs hW => ?_)
  exact kX11_init_416 C hin hs hn0 hnN x0 _ _ _ _ (by omega) hx0 hW (lv_sub hl [0] rfl) hf

set_option maxRecDepth 100000 in
theorem kX11_init_314 {p : Program} {l : Launch} {e : Env} {s : State} {m : MethodId} {av : Array Value} {below : List Frame} {meth : Method} {c : Code} {G : Gv} {B n : Nat} {q : MS} (C : mC p s m av meth c cX11_init RX11 1 none) (hin : meth.name = "<init>") (hs : s.heap.size = B + n) (hn0 : 0 < n) (hnN : n + 47 ≤ 48) : ∀ (x0 : Nat) (S : MS) (H : Heap) (locs : List Loc) (ls : Array Slot), (x0 < n + 23) → (kdM x0 = 11) → mWb false G (shn shM (n + 23)) (Lq B 48) S (mcA shM B 48 n) s H locs → lv_has ls 1 [(0, .ref (ad (Lq B 48) x0))] → fX11_init_314 n x0 S = some q → W p l e (rmC 3 47 47000) s m av below meth c H locs 23 23000 (MQ below (mQ G shM (Lq B 48) q none (mcA shM B 48 n)) av s 47 47000 (mcA shM B 48 n)) (F0 m 314 ls []) := by
  intro x0 S H locs ls lx0 hx0 hW hl hf
  unfold fX11_init_314 at hf
  refine lv_aload_n C.1 C.2.1 dX11_init_314 rfl (lv_at hl 0 rfl) ?_
  refine lv_sipush C.1 C.2.1 dX11_init_315 sp_128 ?_
  obtain ⟨hg39, hf⟩ := gd hf
  have hk40 := okA_spec hg39
  refine mc_newarr (kd := 13) (k0 := 1) C hW (by omega) (by decide) (by omega) hk40.1 hk40.2.1 (mcell_i hk40.2.1) rfl rfl (fun _ h => by cases h) (fun _ => by rw [wip_I]; rfl) (gm_1 59 rfl rfl) hk40.2.2.1 hk40.2.2.2.1 hk40.2.2.2.2 (by decide) (Nat.le_of_ble_eq_true rfl) (Nat.le_of_ble_eq_true rfl) dX11_init_318 (fun H hW => ?_)
  refine W.widen (k := 24) (n := 24000) (Nat.le_refl _) (Nat.le_refl _) ?_
  have hW : mWb false G (shn shM (n + 24)) (Lq B 48) (wip S (n + 23)) (mcA shM B 48 n) s H _ := hW
  refine m_putrF C hin hW ⟨(by show x0 < n + 24; omega), hx0⟩ ffX11_79 (by decide) (Or.inr ⟨_, rfl⟩) ⟨(by show (n + 23) < n + 24; omega), hk40.2.1⟩ dX11_init_320 (fun H locs hW => ?_)
  refine lv_aload_n C.1 C.2.1 dX11_init_323 rfl (lv_at hl 0 rfl) ?_
  refine lv_iconst C.1 C.2.1 dX11_init_324 ic_m1 ?_
  refine m_puti C hW ⟨(by show x0 < n + 24; omega), hx0⟩ fpX11_82 dX11_init_325 (fun H locs hW => ?_)
  refine lv_aload_n C.1 C.2.1 dX11_init_328 rfl (lv_at hl 0 rfl) ?_
  refine lv_bipush C.1 C.2.1 dX11_init_329 bp_7 ?_
  obtain ⟨hg41, hf⟩ := gd hf
  have hk42 := okA_spec hg41
  refine mc_newarr (kd := 14) (k0 := 2) C hW (by omega) (by decide) (by omega) hk42.1 hk42.2.1 (mcell_j hk42.2.1) rfl rfl (fun _ h => by cases h) (fun _ => by rw [wip_J]; rfl) (gm_1 77 rfl rfl) hk42.2.2.1 hk42.2.2.2.1 hk42.2.2.2.2 (by decide) (Nat.le_of_ble_eq_true rfl) (Nat.le_of_ble_eq_true rfl) dX11_init_331 (fun H hW => ?_)
  refine W.widen (k := 25) (n := 25000) (Nat.le_refl _) (Nat.le_refl _) ?_
  have hW : mWb false G (shn shM (n + 25)) (Lq B 48) (wip (pI (pR (wip S (n + 23)) x0 25 (n + 23)) x0 37 (-1 : Int32)) (n + 24)) (mcA shM B 48 n) s H _ := hW
  refine m_putrF C hin hW ⟨(by show x0 < n + 25; omega), hx0⟩ ffX11_86 (by decide) (Or.inr ⟨_, rfl⟩) ⟨(by show (n + 24) < n + 25; omega), hk42.2.1⟩ dX11_init_333 (fun H locs hW => ?_)
  refine lv_aload_n C.1 C.2.1 dX11_init_336 rfl (lv_at hl 0 rfl) ?_
  refine lv_bipush C.1 C.2.1 dX11_init_337 bp_64 ?_
  obtain ⟨hg43, hf⟩ := gd hf
  have hk44 := okA_spec hg43
  refine mc_newarr (kd := 14) (k0 := 2) C hW (by omega) (by decide) (by omega) hk44.1 hk44.2.1 (mcell_j hk44.2.1) rfl rfl (fun _ h => by cases h) (fun _ => by rw [wip_J]; rfl) (gm_1 77 rfl rfl) hk44.2.2.1 hk44.2.2.2.1 hk44.2.2.2.2 (by decide) (Nat.le_of_ble_eq_true rfl) (Nat.le_of_ble_eq_true rfl) dX11_init_339 (fun H hW => ?_)
  refine W.widen (k := 26) (n := 26000) (Nat.le_refl _) (Nat.le_refl _) ?_
  have hW : mWb false G (shn shM (n + 26)) (Lq B 48) (wip (pR (wip (pI (pR (wip S (n + 23)) x0 25 (n + 23)) x0 37 (-1 : Int32)) (n + 24)) x0 40 (n + 24)) (n + 25)) (mcA shM B 48 n) s H _ := hW
  refine m_putrF C hin hW ⟨(by show x0 < n + 26; omega), hx0⟩ ffX11_90 (by decide) (Or.inr ⟨_, rfl⟩) ⟨(by show (n + 25) < n + 26; omega), hk44.2.1⟩ dX11_init_341 (fun H locs hW => ?_)
  refine lv_aload_n C.1 C.2.1 dX11_init_344 rfl (lv_at hl 0 rfl) ?_
  refine lv_bipush C.1 C.2.1 dX11_init_345 bp_23 ?_
  obtain ⟨hg45, hf⟩ := gd hf
  have hk46 := okA_spec hg45
  refine mc_newarr (kd := 13) (k0 := 1) C hW (by omega) (by decide) (by omega) hk46.1 hk46.2.1 (mcell_i hk46.2.1) rfl rfl (fun _ h => by cases h) (fun _ => by rw [wip_I]; rfl) (gm_1 59 rfl rfl) hk46.2.2.1 hk46.2.2.2.1 hk46.2.2.2.2 (by decide) (Nat.le_of_ble_eq_true rfl) (Nat.le_of_ble_eq_true rfl) dX11_init_347 (fun H hW => ?_)
  refine W.widen (k := 27) (n := 27000) (Nat.le_refl _) (Nat.le_refl _) ?_
  have hW : mWb false G (shn shM (n + 27)) (Lq B 48) (wip (pR (wip (pR (wip (pI (pR (wip S (n + 23)) x0 25 (n + 23)) x0 37 (-1 : Int32)) (n + 24)) x0 40 (n + 24)) (n + 25)) x0 41 (n + 25)) (n + 26)) (mcA shM B 48 n) s H _ := hW
  refine m_putrF C hin hW ⟨(by show x0 < n + 27; omega), hx0⟩ ffX11_93 (by decide) (Or.inr ⟨_, rfl⟩) ⟨(by show (n + 26) < n + 27; omega), hk46.2.1⟩ dX11_init_349 (fun H locs hW => ?_)
  refine lv_aload_n C.1 C.2.1 dX11_init_352 rfl (lv_at hl 0 rfl) ?_
  refine lv_bipush C.1 C.2.1 dX11_init_353 bp_23 ?_
  obtain ⟨hg47, hf⟩ := gd hf
  have hk48 := okA_spec hg47
  refine mc_newarr (kd := 13) (k0 := 1) C hW (by omega) (by decide) (by omega) hk48.1 hk48.2.1 (mcell_i hk48.2.1) rfl rfl (fun _ h => by cases h) (fun _ => by rw [wip_I]; rfl) (gm_1 59 rfl rfl) hk48.2.2.1 hk48.2.2.2.1 hk48.2.2.2.2 (by decide) (Nat.le_of_ble_eq_true rfl) (Nat.le_of_ble_eq_true rfl) dX11_init_355 (fun H hW => ?_)
  refine W.widen (k := 28) (n := 28000) (Nat.le_refl _) (Nat.le_refl _) ?_
  have hW : mWb false G (shn shM (n + 28)) (Lq B 48) (wip (pR (wip (pR (wip (pR (wip (pI (pR (wip S (n + 23)) x0 25 (n + 23)) x0 37 (-1 : Int32)) (n + 24)) x0 40 (n + 24)) (n + 25)) x0 41 (n + 25)) (n + 26)) x0 43 (n + 26)) (n + 27)) (mcA shM B 48 n) s H _ := hW
  refine m_putrF C hin hW ⟨(by show x0 < n + 28; omega), hx0⟩ ffX11_96 (by decide) (Or.inr ⟨_, rfl⟩) ⟨(by show (n + 27) < n + 28; omega), hk48.2.1⟩ dX11_init_357 (fun H locs hW => ?_)
  refine lv_aload_n C.1 C.2.1 dX11_init_360 rfl (lv_at hl 0 rfl) ?_
  refine lv_bipush C.1 C.2.1 dX11_init_361 bp_23 ?_
  obtain ⟨hg49, hf⟩ := gd hf
  have hk50 := okA_spec hg49
  refine mc_newarr (kd := 13) (k0 := 1) C hW (by omega) (by decide) (by omega) hk50.1 hk50.2.1 (mcell_i hk50.2.1) rfl rfl (fun _ h => by cases h) (fun _ => by rw [wip_I]; rfl) (gm_1 59 rfl rfl) hk50.2.2.1 hk50.2.2.2.1 hk50.2.2.2.2 (by decide) (Nat.le_of_ble_eq_true rfl) (Nat.le_of_ble_eq_true rfl) dX11_init_363 (fun H hW => ?_)
  refine W.widen (k := 29) (n := 29000) (Nat.le_refl _) (Nat.le_refl _) ?_
  have hW : mWb false G (shn shM (n + 29)) (Lq B 48) (wip (pR (wip (pR (wip (pR (wip (pR (wip (pI (pR (wip S (n + 23)) x0 25 (n + 23)) x0 37 (-1 : Int32)) (n + 24)) x0 40 (n + 24)) (n + 25)) x0 41 (n + 25)) (n + 26)) x0 43 (n + 26)) (n + 27)) x0 44 (n + 27)) (n + 28)) (mcA shM B 48 n) s H _ := hW
  refine m_putrF C hin hW ⟨(by show x0 < n + 29; omega), hx0⟩ ffX11_99 (by decide) (Or.inr ⟨_, rfl⟩) ⟨(by show (n + 28) < n + 29; omega), hk50.2.1⟩ dX11_init_365 (fun H locs hW => ?_)
  exact kX11_init_368 C hin hs hn0 hnN x0 _ _ _ _ (by omega) hx0 hW (lv_sub hl [0] rfl) hf

set_option maxRecDepth 100000 in
theorem kX11_init_265 {p : Program} {l : Launch} {e : Env} {s : State} {m : MethodId} {av : Array Value} {below : List Frame} {meth : Method} {c : Code} {G : Gv} {B n : Nat} {q : MS} (C : mC p s m av meth c cX11_init RX11 1 none) (hin : meth.name = "<init>") (hs : s.heap.size = B + n) (hn0 : 0 < n) (hnN : n + 47 ≤ 48) : ∀ (x0 : Nat) (S : MS) (H : Heap) (locs : List Loc) (ls : Array Slot), (x0 < n + 17) → (kdM x0 = 11) → mWb false G (shn shM (n + 17)) (Lq B 48) S (mcA shM B 48 n) s H locs → lv_has ls 1 [(0, .ref (ad (Lq B 48) x0))] → fX11_init_265 n x0 S = some q → W p l e (rmC 3 47 47000) s m av below meth c H locs 17 17000 (MQ below (mQ G shM (Lq B 48) q none (mcA shM B 48 n)) av s 47 47000 (mcA shM B 48 n)) (F0 m 265 ls []) := by
  intro x0 S H locs ls lx0 hx0 hW hl hf
  unfold fX11_init_265 at hf
  refine lv_aload_n C.1 C.2.1 dX11_init_265 rfl (lv_at hl 0 rfl) ?_
  refine lv_bipush C.1 C.2.1 dX11_init_266 bp_8 ?_
  obtain ⟨hg51, hf⟩ := gd hf
  have hk52 := okA_spec hg51
  refine mc_newarr (kd := 13) (k0 := 1) C hW (by omega) (by decide) (by omega) hk52.1 hk52.2.1 (mcell_i hk52.2.1) rfl rfl (fun _ h => by cases h) (fun _ => by rw [wip_I]; rfl) (gm_1 59 rfl rfl) hk52.2.2.1 hk52.2.2.2.1 hk52.2.2.2.2 (by decide) (Nat.le_of_ble_eq_true rfl) (Nat.le_of_ble_eq_true rfl) dX11_init_268 (fun H hW => ?_)
  refine W.widen (k := 18) (n := 18000) (Nat.le_refl _) (Nat.le_refl _) ?_
  have hW : mWb false G (shn shM (n + 18)) (Lq B 48) (wip S (n + 17)) (mcA shM B 48 n) s H _ := hW
  refine m_putrF C hin hW ⟨(by show x0 < n + 18; omega), hx0⟩ ffX11_61 (by decide) (Or.inr ⟨_, rfl⟩) ⟨(by show (n + 17) < n + 18; omega), hk52.2.1⟩ dX11_init_270 (fun H locs hW => ?_)
  refine lv_aload_n C.1 C.2.1 dX11_init_273 rfl (lv_at hl 0 rfl) ?_
  refine lv_bipush C.1 C.2.1 dX11_init_274 bp_8 ?_
  obtain ⟨hg53, hf⟩ := gd hf
  have hk54 := okA_spec hg53
  refine mc_newarr (kd := 13) (k0 := 1) C hW (by omega) (by decide) (by omega) hk54.1 hk54.2.1 (mcell_i hk54.2.1) rfl rfl (fun _ h => by cases h) (fun _ => by rw [wip_I]; rfl) (gm_1 59 rfl rfl) hk54.2.2.1 hk54.2.2.2.1 hk54.2.2.2.2 (by decide) (Nat.le_of_ble_eq_true rfl) (Nat.le_of_ble_eq_true rfl) dX11_init_276 (fun H hW => ?_)
  refine W.widen (k := 19) (n := 19000) (Nat.le_refl _) (Nat.le_refl _) ?_
  have hW : mWb false G (shn shM (n + 19)) (Lq B 48) (wip (pR (wip S (n + 17)) x0 19 (n + 17)) (n + 18)) (mcA shM B 48 n) s H _ := hW
  refine m_putrF C hin hW ⟨(by show x0 < n + 19; omega), hx0⟩ ffX11_64 (by decide) (Or.inr ⟨_, rfl⟩) ⟨(by show (n + 18) < n + 19; omega), hk54.2.1⟩ dX11_init_278 (fun H locs hW => ?_)
  refine lv_aload_n C.1 C.2.1 dX11_init_281 rfl (lv_at hl 0 rfl) ?_
  refine lv_bipush C.1 C.2.1 dX11_init_282 bp_8 ?_
  obtain ⟨hg55, hf⟩ := gd hf
  have hk56 := okA_spec hg55
  refine mc_newarr (kd := 13) (k0 := 1) C hW (by omega) (by decide) (by omega) hk56.1 hk56.2.1 (mcell_i hk56.2.1) rfl rfl (fun _ h => by cases h) (fun _ => by rw [wip_I]; rfl) (gm_1 59 rfl rfl) hk56.2.2.1 hk56.2.2.2.1 hk56.2.2.2.2 (by decide) (Nat.le_of_ble_eq_true rfl) (Nat.le_of_ble_eq_true rfl) dX11_init_284 (fun H hW => ?_)
  refine W.widen (k := 20) (n := 20000) (Nat.le_refl _) (Nat.le_refl _) ?_
  have hW : mWb false G (shn shM (n + 20)) (Lq B 48) (wip (pR (wip (pR (wip S (n + 17)) x0 19 (n + 17)) (n + 18)) x0 20 (n + 18)) (n + 19)) (mcA shM B 48 n) s H _ := hW
  refine m_putrF C hin hW ⟨(by show x0 < n + 20; omega), hx0⟩ ffX11_67 (by decide) (Or.inr ⟨_, rfl⟩) ⟨(by show (n + 19) < n + 20; omega), hk56.2.1⟩ dX11_init_286 (fun H locs hW => ?_)
  refine lv_aload_n C.1 C.2.1 dX11_init_289 rfl (lv_at hl 0 rfl) ?_
  refine lv_bipush C.1 C.2.1 dX11_init_290 bp_6 ?_
  obtain ⟨hg57, hf⟩ := gd hf
  have hk58 := okA_spec hg57
  refine mc_newarr (kd := 13) (k0 := 1) C hW (by omega) (by decide) (by omega) hk58.1 hk58.2.1 (mcell_i hk58.2.1) rfl rfl (fun _ h => by cases h) (fun _ => by rw [wip_I]; rfl) (gm_1 59 rfl rfl) hk58.2.2.1 hk58.2.2.2.1 hk58.2.2.2.2 (by decide) (Nat.le_of_ble_eq_true rfl) (Nat.le_of_ble_eq_true rfl) dX11_init_292 (fun H hW => ?_)
  refine W.widen (k := 21) (n := 21000) (Nat.le_refl _) (Nat.le_refl _) ?_
  have hW : mWb false G (shn shM (n + 21)) (Lq B 48) (wip (pR (wip (pR (wip (pR (wip S (n + 17)) x0 19 (n + 17)) (n + 18)) x0 20 (n + 18)) (n + 19)) x0 21 (n + 19)) (n + 20)) (mcA shM B 48 n) s H _ := hW
  refine m_putrF C hin hW ⟨(by show x0 < n + 21; omega), hx0⟩ ffX11_70 (by decide) (Or.inr ⟨_, rfl⟩) ⟨(by show (n + 20) < n + 21; omega), hk58.2.1⟩ dX11_init_294 (fun H locs hW => ?_)
  refine lv_aload_n C.1 C.2.1 dX11_init_297 rfl (lv_at hl 0 rfl) ?_
  refine lv_bipush C.1 C.2.1 dX11_init_298 bp_6 ?_
  obtain ⟨hg59, hf⟩ := gd hf
  have hk60 := okA_spec hg59
  refine mc_newarr (kd := 13) (k0 := 1) C hW (by omega) (by decide) (by omega) hk60.1 hk60.2.1 (mcell_i hk60.2.1) rfl rfl (fun _ h => by cases h) (fun _ => by rw [wip_I]; rfl) (gm_1 59 rfl rfl) hk60.2.2.1 hk60.2.2.2.1 hk60.2.2.2.2 (by decide) (Nat.le_of_ble_eq_true rfl) (Nat.le_of_ble_eq_true rfl) dX11_init_300 (fun H hW => ?_)
  refine W.widen (k := 22) (n := 22000) (Nat.le_refl _) (Nat.le_refl _) ?_
  have hW : mWb false G (shn shM (n + 22)) (Lq B 48) (wip (pR (wip (pR (wip (pR (wip (pR (wip S (n + 17)) x0 19 (n + 17)) (n + 18)) x0 20 (n + 18)) (n + 19)) x0 21 (n + 19)) (n + 20)) x0 22 (n + 20)) (n + 21)) (mcA shM B 48 n) s H _ := hW
  refine m_putrF C hin hW ⟨(by show x0 < n + 22; omega), hx0⟩ ffX11_73 (by decide) (Or.inr ⟨_, rfl⟩) ⟨(by show (n + 21) < n + 22; omega), hk60.2.1⟩ dX11_init_302 (fun H locs hW => ?_)
  refine lv_aload_n C.1 C.2.1 dX11_init_305 rfl (lv_at hl 0 rfl) ?_
  refine lv_sipush C.1 C.2.1 dX11_init_306 sp_128 ?_
  obtain ⟨hg61, hf⟩ := gd hf
  have hk62 := okA_spec hg61
  refine mc_newarr (kd := 13) (k0 := 1) C hW (by omega) (by decide) (by omega) hk62.1 hk62.2.1 (mcell_i hk62.2.1) rfl rfl (fun _ h => by cases h) (fun _ => by rw [wip_I]; rfl) (gm_1 59 rfl rfl) hk62.2.2.1 hk62.2.2.2.1 hk62.2.2.2.2 (by decide) (Nat.le_of_ble_eq_true rfl) (Nat.le_of_ble_eq_true rfl) dX11_init_309 (fun H hW => ?_)
  refine W.widen (k := 23) (n := 23000) (Nat.le_refl _) (Nat.le_refl _) ?_
  have hW : mWb false G (shn shM (n + 23)) (Lq B 48) (wip (pR (wip (pR (wip (pR (wip (pR (wip (pR (wip S (n + 17)) x0 19 (n + 17)) (n + 18)) x0 20 (n + 18)) (n + 19)) x0 21 (n + 19)) (n + 20)) x0 22 (n + 20)) (n + 21)) x0 23 (n + 21)) (n + 22)) (mcA shM B 48 n) s H _ := hW
  refine m_putrF C hin hW ⟨(by show x0 < n + 23; omega), hx0⟩ ffX11_76 (by decide) (Or.inr ⟨_, rfl⟩) ⟨(by show (n + 22) < n + 23; omega), hk62.2.1⟩ dX11_init_311 (fun H locs hW => ?_)
  exact kX11_init_314 C hin hs hn0 hnN x0 _ _ _ _ (by omega) hx0 hW (lv_sub hl [0] rfl) hf

set_option maxRecDepth 100000 in
theorem kX11_init_217 {p : Program} {l : Launch} {e : Env} {s : State} {m : MethodId} {av : Array Value} {below : List Frame} {meth : Method} {c : Code} {G : Gv} {B n : Nat} {q : MS} (C : mC p s m av meth c cX11_init RX11 1 none) (hin : meth.name = "<init>") (hs : s.heap.size = B + n) (hn0 : 0 < n) (hnN : n + 47 ≤ 48) : ∀ (x0 : Nat) (S : MS) (H : Heap) (locs : List Loc) (ls : Array Slot), (x0 < n + 11) → (kdM x0 = 11) → mWb false G (shn shM (n + 11)) (Lq B 48) S (mcA shM B 48 n) s H locs → lv_has ls 1 [(0, .ref (ad (Lq B 48) x0))] → fX11_init_217 n x0 S = some q → W p l e (rmC 3 47 47000) s m av below meth c H locs 11 11000 (MQ below (mQ G shM (Lq B 48) q none (mcA shM B 48 n)) av s 47 47000 (mcA shM B 48 n)) (F0 m 217 ls []) := by
  intro x0 S H locs ls lx0 hx0 hW hl hf
  unfold fX11_init_217 at hf
  refine lv_aload_n C.1 C.2.1 dX11_init_217 rfl (lv_at hl 0 rfl) ?_
  refine lv_bipush C.1 C.2.1 dX11_init_218 bp_24 ?_
  obtain ⟨hg63, hf⟩ := gd hf
  have hk64 := okA_spec hg63
  refine mc_newarr (kd := 13) (k0 := 1) C hW (by omega) (by decide) (by omega) hk64.1 hk64.2.1 (mcell_i hk64.2.1) rfl rfl (fun _ h => by cases h) (fun _ => by rw [wip_I]; rfl) (gm_1 59 rfl rfl) hk64.2.2.1 hk64.2.2.2.1 hk64.2.2.2.2 (by decide) (Nat.le_of_ble_eq_true rfl) (Nat.le_of_ble_eq_true rfl) dX11_init_220 (fun H hW => ?_)
  refine W.widen (k := 12) (n := 12000) (Nat.le_refl _) (Nat.le_refl _) ?_
  have hW : mWb false G (shn shM (n + 12)) (Lq B 48) (wip S (n + 11)) (mcA shM B 48 n) s H _ := hW
  refine m_putrF C hin hW ⟨(by show x0 < n + 12; omega), hx0⟩ ffX11_43 (by decide) (Or.inr ⟨_, rfl⟩) ⟨(by show (n + 11) < n + 12; omega), hk64.2.1⟩ dX11_init_222 (fun H locs hW => ?_)
  refine lv_aload_n C.1 C.2.1 dX11_init_225 rfl (lv_at hl 0 rfl) ?_
  refine lv_bipush C.1 C.2.1 dX11_init_226 bp_16 ?_
  obtain ⟨hg65, hf⟩ := gd hf
  have hk66 := okA_spec hg65
  refine mc_newarr (kd := 13) (k0 := 1) C hW (by omega) (by decide) (by omega) hk66.1 hk66.2.1 (mcell_i hk66.2.1) rfl rfl (fun _ h => by cases h) (fun _ => by rw [wip_I]; rfl) (gm_1 59 rfl rfl) hk66.2.2.1 hk66.2.2.2.1 hk66.2.2.2.2 (by decide) (Nat.le_of_ble_eq_true rfl) (Nat.le_of_ble_eq_true rfl) dX11_init_228 (fun H hW => ?_)
  refine W.widen (k := 13) (n := 13000) (Nat.le_refl _) (Nat.le_refl _) ?_
  have hW : mWb false G (shn shM (n + 13)) (Lq B 48) (wip (pR (wip S (n + 11)) x0 13 (n + 11)) (n + 12)) (mcA shM B 48 n) s H _ := hW
  refine m_putrF C hin hW ⟨(by show x0 < n + 13; omega), hx0⟩ ffX11_46 (by decide) (Or.inr ⟨_, rfl⟩) ⟨(by show (n + 12) < n + 13; omega), hk66.2.1⟩ dX11_init_230 (fun H locs hW => ?_)
  refine lv_aload_n C.1 C.2.1 dX11_init_233 rfl (lv_at hl 0 rfl) ?_
  refine lv_bipush C.1 C.2.1 dX11_init_234 bp_16 ?_
  obtain ⟨hg67, hf⟩ := gd hf
  have hk68 := okA_spec hg67
  refine mc_newarr (kd := 13) (k0 := 1) C hW (by omega) (by decide) (by omega) hk68.1 hk68.2.1 (mcell_i hk68.2.1) rfl rfl (fun _ h => by cases h) (fun _ => by rw [wip_I]; rfl) (gm_1 59 rfl rfl) hk68.2.2.1 hk68.2.2.2.1 hk68.2.2.2.2 (by decide) (Nat.le_of_ble_eq_true rfl) (Nat.le_of_ble_eq_true rfl) dX11_init_236 (fun H hW => ?_)
  refine W.widen (k := 14) (n := 14000) (Nat.le_refl _) (Nat.le_refl _) ?_
  have hW : mWb false G (shn shM (n + 14)) (Lq B 48) (wip (pR (wip (pR (wip S (n + 11)) x0 13 (n + 11)) (n + 12)) x0 14 (n + 12)) (n + 13)) (mcA shM B 48 n) s H _ := hW
  refine m_putrF C hin hW ⟨(by show x0 < n + 14; omega), hx0⟩ ffX11_49 (by decide) (Or.inr ⟨_, rfl⟩) ⟨(by show (n + 13) < n + 14; omega), hk68.2.1⟩ dX11_init_238 (fun H locs hW => ?_)
  refine lv_aload_n C.1 C.2.1 dX11_init_241 rfl (lv_at hl 0 rfl) ?_
  refine lv_bipush C.1 C.2.1 dX11_init_242 bp_16 ?_
  obtain ⟨hg69, hf⟩ := gd hf
  have hk70 := okA_spec hg69
  refine mc_newarr (kd := 13) (k0 := 1) C hW (by omega) (by decide) (by omega) hk70.1 hk70.2.1 (mcell_i hk70.2.1) rfl rfl (fun _ h => by cases h) (fun _ => by rw [wip_I]; rfl) (gm_1 59 rfl rfl) hk70.2.2.1 hk70.2.2.2.1 hk70.2.2.2.2 (by decide) (Nat.le_of_ble_eq_true rfl) (Nat.le_of_ble_eq_true rfl) dX11_init_244 (fun H hW => ?_)
  refine W.widen (k := 15) (n := 15000) (Nat.le_refl _) (Nat.le_refl _) ?_
  have hW : mWb false G (shn shM (n + 15)) (Lq B 48) (wip (pR (wip (pR (wip (pR (wip S (n + 11)) x0 13 (n + 11)) (n + 12)) x0 14 (n + 12)) (n + 13)) x0 15 (n + 13)) (n + 14)) (mcA shM B 48 n) s H _ := hW
  refine m_putrF C hin hW ⟨(by show x0 < n + 15; omega), hx0⟩ ffX11_52 (by decide) (Or.inr ⟨_, rfl⟩) ⟨(by show (n + 14) < n + 15; omega), hk70.2.1⟩ dX11_init_246 (fun H locs hW => ?_)
  refine lv_aload_n C.1 C.2.1 dX11_init_249 rfl (lv_at hl 0 rfl) ?_
  refine lv_bipush C.1 C.2.1 dX11_init_250 bp_16 ?_
  obtain ⟨hg71, hf⟩ := gd hf
  have hk72 := okA_spec hg71
  refine mc_newarr (kd := 13) (k0 := 1) C hW (by omega) (by decide) (by omega) hk72.1 hk72.2.1 (mcell_i hk72.2.1) rfl rfl (fun _ h => by cases h) (fun _ => by rw [wip_I]; rfl) (gm_1 59 rfl rfl) hk72.2.2.1 hk72.2.2.2.1 hk72.2.2.2.2 (by decide) (Nat.le_of_ble_eq_true rfl) (Nat.le_of_ble_eq_true rfl) dX11_init_252 (fun H hW => ?_)
  refine W.widen (k := 16) (n := 16000) (Nat.le_refl _) (Nat.le_refl _) ?_
  have hW : mWb false G (shn shM (n + 16)) (Lq B 48) (wip (pR (wip (pR (wip (pR (wip (pR (wip S (n + 11)) x0 13 (n + 11)) (n + 12)) x0 14 (n + 12)) (n + 13)) x0 15 (n + 13)) (n + 14)) x0 16 (n + 14)) (n + 15)) (mcA shM B 48 n) s H _ := hW
  refine m_putrF C hin hW ⟨(by show x0 < n + 16; omega), hx0⟩ ffX11_55 (by decide) (Or.inr ⟨_, rfl⟩) ⟨(by show (n + 15) < n + 16; omega), hk72.2.1⟩ dX11_init_254 (fun H locs hW => ?_)
  refine lv_aload_n C.1 C.2.1 dX11_init_257 rfl (lv_at hl 0 rfl) ?_
  refine lv_bipush C.1 C.2.1 dX11_init_258 bp_16 ?_
  obtain ⟨hg73, hf⟩ := gd hf
  have hk74 := okA_spec hg73
  refine mc_newarr (kd := 13) (k0 := 1) C hW (by omega) (by decide) (by omega) hk74.1 hk74.2.1 (mcell_i hk74.2.1) rfl rfl (fun _ h => by cases h) (fun _ => by rw [wip_I]; rfl) (gm_1 59 rfl rfl) hk74.2.2.1 hk74.2.2.2.1 hk74.2.2.2.2 (by decide) (Nat.le_of_ble_eq_true rfl) (Nat.le_of_ble_eq_true rfl) dX11_init_260 (fun H hW => ?_)
  refine W.widen (k := 17) (n := 17000) (Nat.le_refl _) (Nat.le_refl _) ?_
  have hW : mWb false G (shn shM (n + 17)) (Lq B 48) (wip (pR (wip (pR (wip (pR (wip (pR (wip (pR (wip S (n + 11)) x0 13 (n + 11)) (n + 12)) x0 14 (n + 12)) (n + 13)) x0 15 (n + 13)) (n + 14)) x0 16 (n + 14)) (n + 15)) x0 17 (n + 15)) (n + 16)) (mcA shM B 48 n) s H _ := hW
  refine m_putrF C hin hW ⟨(by show x0 < n + 17; omega), hx0⟩ ffX11_58 (by decide) (Or.inr ⟨_, rfl⟩) ⟨(by show (n + 16) < n + 17; omega), hk74.2.1⟩ dX11_init_262 (fun H locs hW => ?_)
  exact kX11_init_265 C hin hs hn0 hnN x0 _ _ _ _ (by omega) hx0 hW (lv_sub hl [0] rfl) hf

set_option maxRecDepth 100000 in
theorem kX11_init_161 {p : Program} {l : Launch} {e : Env} {s : State} {m : MethodId} {av : Array Value} {below : List Frame} {meth : Method} {c : Code} {G : Gv} {B n : Nat} {q : MS} (C : mC p s m av meth c cX11_init RX11 1 none) (hin : meth.name = "<init>") (hs : s.heap.size = B + n) (hn0 : 0 < n) (hnN : n + 47 ≤ 48) : ∀ (x0 : Nat) (S : MS) (H : Heap) (locs : List Loc) (ls : Array Slot), (x0 < n + 4) → (kdM x0 = 11) → mWb false G (shn shM (n + 4)) (Lq B 48) S (mcA shM B 48 n) s H locs → lv_has ls 1 [(0, .ref (ad (Lq B 48) x0))] → fX11_init_161 n x0 S = some q → W p l e (rmC 3 47 47000) s m av below meth c H locs 4 4000 (MQ below (mQ G shM (Lq B 48) q none (mcA shM B 48 n)) av s 47 47000 (mcA shM B 48 n)) (F0 m 161 ls []) := by
  intro x0 S H locs ls lx0 hx0 hW hl hf
  unfold fX11_init_161 at hf
  refine lv_aload_n C.1 C.2.1 dX11_init_161 rfl (lv_at hl 0 rfl) ?_
  refine lv_bipush C.1 C.2.1 dX11_init_162 bp_12 ?_
  obtain ⟨hg75, hf⟩ := gd hf
  have hk76 := okA_spec hg75
  refine mc_newarr (kd := 13) (k0 := 1) C hW (by omega) (by decide) (by omega) hk76.1 hk76.2.1 (mcell_i hk76.2.1) rfl rfl (fun _ h => by cases h) (fun _ => by rw [wip_I]; rfl) (gm_1 59 rfl rfl) hk76.2.2.1 hk76.2.2.2.1 hk76.2.2.2.2 (by decide) (Nat.le_of_ble_eq_true rfl) (Nat.le_of_ble_eq_true rfl) dX11_init_164 (fun H hW => ?_)
  refine W.widen (k := 5) (n := 5000) (Nat.le_refl _) (Nat.le_refl _) ?_
  have hW : mWb false G (shn shM (n + 5)) (Lq B 48) (wip S (n + 4)) (mcA shM B 48 n) s H _ := hW
  refine m_putrF C hin hW ⟨(by show x0 < n + 5; omega), hx0⟩ ffX11_22 (by decide) (Or.inr ⟨_, rfl⟩) ⟨(by show (n + 4) < n + 5; omega), hk76.2.1⟩ dX11_init_166 (fun H locs hW => ?_)
  refine lv_aload_n C.1 C.2.1 dX11_init_169 rfl (lv_at hl 0 rfl) ?_
  refine lv_bipush C.1 C.2.1 dX11_init_170 bp_12 ?_
  obtain ⟨hg77, hf⟩ := gd hf
  have hk78 := okA_spec hg77
  refine mc_newarr (kd := 13) (k0 := 1) C hW (by omega) (by decide) (by omega) hk78.1 hk78.2.1 (mcell_i hk78.2.1) rfl rfl (fun _ h => by cases h) (fun _ => by rw [wip_I]; rfl) (gm_1 59 rfl rfl) hk78.2.2.1 hk78.2.2.2.1 hk78.2.2.2.2 (by decide) (Nat.le_of_ble_eq_true rfl) (Nat.le_of_ble_eq_true rfl) dX11_init_172 (fun H hW => ?_)
  refine W.widen (k := 6) (n := 6000) (Nat.le_refl _) (Nat.le_refl _) ?_
  have hW : mWb false G (shn shM (n + 6)) (Lq B 48) (wip (pR (wip S (n + 4)) x0 6 (n + 4)) (n + 5)) (mcA shM B 48 n) s H _ := hW
  refine m_putrF C hin hW ⟨(by show x0 < n + 6; omega), hx0⟩ ffX11_25 (by decide) (Or.inr ⟨_, rfl⟩) ⟨(by show (n + 5) < n + 6; omega), hk78.2.1⟩ dX11_init_174 (fun H locs hW => ?_)
  refine lv_aload_n C.1 C.2.1 dX11_init_177 rfl (lv_at hl 0 rfl) ?_
  refine lv_bipush C.1 C.2.1 dX11_init_178 bp_8 ?_
  obtain ⟨hg79, hf⟩ := gd hf
  have hk80 := okA_spec hg79
  refine mc_newarr (kd := 13) (k0 := 1) C hW (by omega) (by decide) (by omega) hk80.1 hk80.2.1 (mcell_i hk80.2.1) rfl rfl (fun _ h => by cases h) (fun _ => by rw [wip_I]; rfl) (gm_1 59 rfl rfl) hk80.2.2.1 hk80.2.2.2.1 hk80.2.2.2.2 (by decide) (Nat.le_of_ble_eq_true rfl) (Nat.le_of_ble_eq_true rfl) dX11_init_180 (fun H hW => ?_)
  refine W.widen (k := 7) (n := 7000) (Nat.le_refl _) (Nat.le_refl _) ?_
  have hW : mWb false G (shn shM (n + 7)) (Lq B 48) (wip (pR (wip (pR (wip S (n + 4)) x0 6 (n + 4)) (n + 5)) x0 7 (n + 5)) (n + 6)) (mcA shM B 48 n) s H _ := hW
  refine m_putrF C hin hW ⟨(by show x0 < n + 7; omega), hx0⟩ ffX11_28 (by decide) (Or.inr ⟨_, rfl⟩) ⟨(by show (n + 6) < n + 7; omega), hk80.2.1⟩ dX11_init_182 (fun H locs hW => ?_)
  refine lv_aload_n C.1 C.2.1 dX11_init_185 rfl (lv_at hl 0 rfl) ?_
  refine lv_bipush C.1 C.2.1 dX11_init_186 bp_8 ?_
  obtain ⟨hg81, hf⟩ := gd hf
  have hk82 := okA_spec hg81
  refine mc_newarr (kd := 13) (k0 := 1) C hW (by omega) (by decide) (by omega) hk82.1 hk82.2.1 (mcell_i hk82.2.1) rfl rfl (fun _ h => by cases h) (fun _ => by rw [wip_I]; rfl) (gm_1 59 rfl rfl) hk82.2.2.1 hk82.2.2.2.1 hk82.2.2.2.2 (by decide) (Nat.le_of_ble_eq_true rfl) (Nat.le_of_ble_eq_true rfl) dX11_init_188 (fun H hW => ?_)
  refine W.widen (k := 8) (n := 8000) (Nat.le_refl _) (Nat.le_refl _) ?_
  have hW : mWb false G (shn shM (n + 8)) (Lq B 48) (wip (pR (wip (pR (wip (pR (wip S (n + 4)) x0 6 (n + 4)) (n + 5)) x0 7 (n + 5)) (n + 6)) x0 8 (n + 6)) (n + 7)) (mcA shM B 48 n) s H _ := hW
  refine m_putrF C hin hW ⟨(by show x0 < n + 8; omega), hx0⟩ ffX11_31 (by decide) (Or.inr ⟨_, rfl⟩) ⟨(by show (n + 7) < n + 8; omega), hk82.2.1⟩ dX11_init_190 (fun H locs hW => ?_)
  refine lv_aload_n C.1 C.2.1 dX11_init_193 rfl (lv_at hl 0 rfl) ?_
  refine lv_bipush C.1 C.2.1 dX11_init_194 bp_8 ?_
  obtain ⟨hg83, hf⟩ := gd hf
  have hk84 := okA_spec hg83
  refine mc_newarr (kd := 13) (k0 := 1) C hW (by omega) (by decide) (by omega) hk84.1 hk84.2.1 (mcell_i hk84.2.1) rfl rfl (fun _ h => by cases h) (fun _ => by rw [wip_I]; rfl) (gm_1 59 rfl rfl) hk84.2.2.1 hk84.2.2.2.1 hk84.2.2.2.2 (by decide) (Nat.le_of_ble_eq_true rfl) (Nat.le_of_ble_eq_true rfl) dX11_init_196 (fun H hW => ?_)
  refine W.widen (k := 9) (n := 9000) (Nat.le_refl _) (Nat.le_refl _) ?_
  have hW : mWb false G (shn shM (n + 9)) (Lq B 48) (wip (pR (wip (pR (wip (pR (wip (pR (wip S (n + 4)) x0 6 (n + 4)) (n + 5)) x0 7 (n + 5)) (n + 6)) x0 8 (n + 6)) (n + 7)) x0 9 (n + 7)) (n + 8)) (mcA shM B 48 n) s H _ := hW
  refine m_putrF C hin hW ⟨(by show x0 < n + 9; omega), hx0⟩ ffX11_34 (by decide) (Or.inr ⟨_, rfl⟩) ⟨(by show (n + 8) < n + 9; omega), hk84.2.1⟩ dX11_init_198 (fun H locs hW => ?_)
  refine lv_aload_n C.1 C.2.1 dX11_init_201 rfl (lv_at hl 0 rfl) ?_
  refine lv_bipush C.1 C.2.1 dX11_init_202 bp_8 ?_
  obtain ⟨hg85, hf⟩ := gd hf
  have hk86 := okA_spec hg85
  refine mc_newarr (kd := 13) (k0 := 1) C hW (by omega) (by decide) (by omega) hk86.1 hk86.2.1 (mcell_i hk86.2.1) rfl rfl (fun _ h => by cases h) (fun _ => by rw [wip_I]; rfl) (gm_1 59 rfl rfl) hk86.2.2.1 hk86.2.2.2.1 hk86.2.2.2.2 (by decide) (Nat.le_of_ble_eq_true rfl) (Nat.le_of_ble_eq_true rfl) dX11_init_204 (fun H hW => ?_)
  refine W.widen (k := 10) (n := 10000) (Nat.le_refl _) (Nat.le_refl _) ?_
  have hW : mWb false G (shn shM (n + 10)) (Lq B 48) (wip (pR (wip (pR (wip (pR (wip (pR (wip (pR (wip S (n + 4)) x0 6 (n + 4)) (n + 5)) x0 7 (n + 5)) (n + 6)) x0 8 (n + 6)) (n + 7)) x0 9 (n + 7)) (n + 8)) x0 10 (n + 8)) (n + 9)) (mcA shM B 48 n) s H _ := hW
  refine m_putrF C hin hW ⟨(by show x0 < n + 10; omega), hx0⟩ ffX11_37 (by decide) (Or.inr ⟨_, rfl⟩) ⟨(by show (n + 9) < n + 10; omega), hk86.2.1⟩ dX11_init_206 (fun H locs hW => ?_)
  refine lv_aload_n C.1 C.2.1 dX11_init_209 rfl (lv_at hl 0 rfl) ?_
  refine lv_bipush C.1 C.2.1 dX11_init_210 bp_24 ?_
  obtain ⟨hg87, hf⟩ := gd hf
  have hk88 := okA_spec hg87
  refine mc_newarr (kd := 13) (k0 := 1) C hW (by omega) (by decide) (by omega) hk88.1 hk88.2.1 (mcell_i hk88.2.1) rfl rfl (fun _ h => by cases h) (fun _ => by rw [wip_I]; rfl) (gm_1 59 rfl rfl) hk88.2.2.1 hk88.2.2.2.1 hk88.2.2.2.2 (by decide) (Nat.le_of_ble_eq_true rfl) (Nat.le_of_ble_eq_true rfl) dX11_init_212 (fun H hW => ?_)
  refine W.widen (k := 11) (n := 11000) (Nat.le_refl _) (Nat.le_refl _) ?_
  have hW : mWb false G (shn shM (n + 11)) (Lq B 48) (wip (pR (wip (pR (wip (pR (wip (pR (wip (pR (wip (pR (wip S (n + 4)) x0 6 (n + 4)) (n + 5)) x0 7 (n + 5)) (n + 6)) x0 8 (n + 6)) (n + 7)) x0 9 (n + 7)) (n + 8)) x0 10 (n + 8)) (n + 9)) x0 11 (n + 9)) (n + 10)) (mcA shM B 48 n) s H _ := hW
  refine m_putrF C hin hW ⟨(by show x0 < n + 11; omega), hx0⟩ ffX11_40 (by decide) (Or.inr ⟨_, rfl⟩) ⟨(by show (n + 10) < n + 11; omega), hk88.2.1⟩ dX11_init_214 (fun H locs hW => ?_)
  exact kX11_init_217 C hin hs hn0 hnN x0 _ _ _ _ (by omega) hx0 hW (lv_sub hl [0] rfl) hf

set_option maxRecDepth 100000 in
theorem kX11_init_127 {p : Program} {l : Launch} {e : Env} {s : State} {m : MethodId} {av : Array Value} {below : List Frame} {meth : Method} {c : Code} {G : Gv} {B n : Nat} {q : MS} (C : mC p s m av meth c cX11_init RX11 1 none) (hin : meth.name = "<init>") (hs : s.heap.size = B + n) (hn0 : 0 < n) (hnN : n + 47 ≤ 48) : ∀ (x0 : Nat) (y0 : Nat) (y1 : Nat) (S : MS) (H : Heap) (locs : List Loc) (ls : Array Slot), (x0 < n + 2) → (kdM x0 = 11) → (y0 < n + 2) → (kdM y0 = 11) → (y1 < n + 2) → (kdM y1 = 13) → mWb false G (shn shM (n + 2)) (Lq B 48) S (mcA shM B 48 n) s H locs → lv_has ls 1 [(0, .ref (ad (Lq B 48) x0))] → fX11_init_127 n x0 y0 y1 S = some q → W p l e (rmC 3 47 47000) s m av below meth c H locs 2 2000 (MQ below (mQ G shM (Lq B 48) q none (mcA shM B 48 n)) av s 47 47000 (mcA shM B 48 n)) (F0 m 127 ls [.ref (ad (Lq B 48) y1), .ref (ad (Lq B 48) y0)]) := by
  intro x0 y0 y1 S H locs ls lx0 hx0 ly0 hy0 ly1 hy1 hW hl hf
  unfold fX11_init_127 at hf
  refine lv_dup C.1 C.2.1 dX11_init_127 rfl ?_
  refine lv_bipush C.1 C.2.1 dX11_init_128 bp_23 ?_
  refine lv_iconst C.1 C.2.1 dX11_init_130 ic_0 ?_
  obtain ⟨hb89, hf⟩ := gd hf
  refine m_iast C hW ⟨(by show y1 < n + 2; omega), hy1⟩ hb89 dX11_init_131 (fun H locs hW => ?_)
  refine lv_dup C.1 C.2.1 dX11_init_132 rfl ?_
  refine lv_bipush C.1 C.2.1 dX11_init_133 bp_24 ?_
  refine lv_iconst C.1 C.2.1 dX11_init_135 ic_0 ?_
  obtain ⟨hb90, hf⟩ := gd hf
  refine m_iast C hW ⟨(by show y1 < n + 2; omega), hy1⟩ hb90 dX11_init_136 (fun H locs hW => ?_)
  refine lv_dup C.1 C.2.1 dX11_init_137 rfl ?_
  refine lv_bipush C.1 C.2.1 dX11_init_138 bp_25 ?_
  refine lv_iconst C.1 C.2.1 dX11_init_140 ic_0 ?_
  obtain ⟨hb91, hf⟩ := gd hf
  refine m_iast C hW ⟨(by show y1 < n + 2; omega), hy1⟩ hb91 dX11_init_141 (fun H locs hW => ?_)
  refine m_putrF C hin hW ⟨(by show y0 < n + 2; omega), hy0⟩ ffX11_13 (by decide) (Or.inr ⟨_, rfl⟩) ⟨(by show y1 < n + 2; omega), hy1⟩ dX11_init_142 (fun H locs hW => ?_)
  refine lv_aload_n C.1 C.2.1 dX11_init_145 rfl (lv_at hl 0 rfl) ?_
  refine lv_bipush C.1 C.2.1 dX11_init_146 bp_16 ?_
  obtain ⟨hg92, hf⟩ := gd hf
  have hk93 := okA_spec hg92
  refine mc_newarr (kd := 13) (k0 := 1) C hW (by omega) (by decide) (by omega) hk93.1 hk93.2.1 (mcell_i hk93.2.1) rfl rfl (fun _ h => by cases h) (fun _ => by rw [wip_I]; rfl) (gm_1 59 rfl rfl) hk93.2.2.1 hk93.2.2.2.1 hk93.2.2.2.2 (by decide) (Nat.le_of_ble_eq_true rfl) (Nat.le_of_ble_eq_true rfl) dX11_init_148 (fun H hW => ?_)
  refine W.widen (k := 3) (n := 3000) (Nat.le_refl _) (Nat.le_refl _) ?_
  have hW : mWb false G (shn shM (n + 3)) (Lq B 48) (wip (pR (pI (pI (pI S y1 ((23 : Int32).toNatClampNeg) (0 : Int32)) y1 ((24 : Int32).toNatClampNeg) (0 : Int32)) y1 ((25 : Int32).toNatClampNeg) (0 : Int32)) y0 3 y1) (n + 2)) (mcA shM B 48 n) s H _ := hW
  refine m_putrF C hin hW ⟨(by show x0 < n + 3; omega), hx0⟩ ffX11_16 (by decide) (Or.inr ⟨_, rfl⟩) ⟨(by show (n + 2) < n + 3; omega), hk93.2.1⟩ dX11_init_150 (fun H locs hW => ?_)
  refine lv_aload_n C.1 C.2.1 dX11_init_153 rfl (lv_at hl 0 rfl) ?_
  refine lv_bipush C.1 C.2.1 dX11_init_154 bp_12 ?_
  obtain ⟨hg94, hf⟩ := gd hf
  have hk95 := okA_spec hg94
  refine mc_newarr (kd := 13) (k0 := 1) C hW (by omega) (by decide) (by omega) hk95.1 hk95.2.1 (mcell_i hk95.2.1) rfl rfl (fun _ h => by cases h) (fun _ => by rw [wip_I]; rfl) (gm_1 59 rfl rfl) hk95.2.2.1 hk95.2.2.2.1 hk95.2.2.2.2 (by decide) (Nat.le_of_ble_eq_true rfl) (Nat.le_of_ble_eq_true rfl) dX11_init_156 (fun H hW => ?_)
  refine W.widen (k := 4) (n := 4000) (Nat.le_refl _) (Nat.le_refl _) ?_
  have hW : mWb false G (shn shM (n + 4)) (Lq B 48) (wip (pR (wip (pR (pI (pI (pI S y1 ((23 : Int32).toNatClampNeg) (0 : Int32)) y1 ((24 : Int32).toNatClampNeg) (0 : Int32)) y1 ((25 : Int32).toNatClampNeg) (0 : Int32)) y0 3 y1) (n + 2)) x0 4 (n + 2)) (n + 3)) (mcA shM B 48 n) s H _ := hW
  refine m_putrF C hin hW ⟨(by show x0 < n + 4; omega), hx0⟩ ffX11_19 (by decide) (Or.inr ⟨_, rfl⟩) ⟨(by show (n + 3) < n + 4; omega), hk95.2.1⟩ dX11_init_158 (fun H locs hW => ?_)
  exact kX11_init_161 C hin hs hn0 hnN x0 _ _ _ _ (by omega) hx0 hW (lv_sub hl [0] rfl) hf

set_option maxRecDepth 100000 in
theorem kX11_init_102 {p : Program} {l : Launch} {e : Env} {s : State} {m : MethodId} {av : Array Value} {below : List Frame} {meth : Method} {c : Code} {G : Gv} {B n : Nat} {q : MS} (C : mC p s m av meth c cX11_init RX11 1 none) (hin : meth.name = "<init>") (hs : s.heap.size = B + n) (hn0 : 0 < n) (hnN : n + 47 ≤ 48) : ∀ (x0 : Nat) (y0 : Nat) (y1 : Nat) (S : MS) (H : Heap) (locs : List Loc) (ls : Array Slot), (x0 < n + 2) → (kdM x0 = 11) → (y0 < n + 2) → (kdM y0 = 11) → (y1 < n + 2) → (kdM y1 = 13) → mWb false G (shn shM (n + 2)) (Lq B 48) S (mcA shM B 48 n) s H locs → lv_has ls 1 [(0, .ref (ad (Lq B 48) x0))] → fX11_init_102 n x0 y0 y1 S = some q → W p l e (rmC 3 47 47000) s m av below meth c H locs 2 2000 (MQ below (mQ G shM (Lq B 48) q none (mcA shM B 48 n)) av s 47 47000 (mcA shM B 48 n)) (F0 m 102 ls [.ref (ad (Lq B 48) y1), .ref (ad (Lq B 48) y0)]) := by
  intro x0 y0 y1 S H locs ls lx0 hx0 ly0 hy0 ly1 hy1 hW hl hf
  unfold fX11_init_102 at hf
  refine lv_dup C.1 C.2.1 dX11_init_102 rfl ?_
  refine lv_bipush C.1 C.2.1 dX11_init_103 bp_18 ?_
  refine lv_iconst C.1 C.2.1 dX11_init_105 ic_0 ?_
  obtain ⟨hb96, hf⟩ := gd hf
  refine m_iast C hW ⟨(by show y1 < n + 2; omega), hy1⟩ hb96 dX11_init_106 (fun H locs hW => ?_)
  refine lv_dup C.1 C.2.1 dX11_init_107 rfl ?_
  refine lv_bipush C.1 C.2.1 dX11_init_108 bp_19 ?_
  refine lv_iconst C.1 C.2.1 dX11_init_110 ic_0 ?_
  obtain ⟨hb97, hf⟩ := gd hf
  refine m_iast C hW ⟨(by show y1 < n + 2; omega), hy1⟩ hb97 dX11_init_111 (fun H locs hW => ?_)
  refine lv_dup C.1 C.2.1 dX11_init_112 rfl ?_
  refine lv_bipush C.1 C.2.1 dX11_init_113 bp_20 ?_
  refine lv_iconst C.1 C.2.1 dX11_init_115 ic_0 ?_
  obtain ⟨hb98, hf⟩ := gd hf
  refine m_iast C hW ⟨(by show y1 < n + 2; omega), hy1⟩ hb98 dX11_init_116 (fun H locs hW => ?_)
  refine lv_dup C.1 C.2.1 dX11_init_117 rfl ?_
  refine lv_bipush C.1 C.2.1 dX11_init_118 bp_21 ?_
  refine lv_iconst C.1 C.2.1 dX11_init_120 ic_0 ?_
  obtain ⟨hb99, hf⟩ := gd hf
  refine m_iast C hW ⟨(by show y1 < n + 2; omega), hy1⟩ hb99 dX11_init_121 (fun H locs hW => ?_)
  refine lv_dup C.1 C.2.1 dX11_init_122 rfl ?_
  refine lv_bipush C.1 C.2.1 dX11_init_123 bp_22 ?_
  refine lv_iconst C.1 C.2.1 dX11_init_125 ic_0 ?_
  obtain ⟨hb100, hf⟩ := gd hf
  refine m_iast C hW ⟨(by show y1 < n + 2; omega), hy1⟩ hb100 dX11_init_126 (fun H locs hW => ?_)
  exact kX11_init_127 C hin hs hn0 hnN x0 y0 y1 _ _ _ _ (by omega) hx0 (by omega) hy0 (by omega) hy1 hW (lv_sub hl [0] rfl) hf

set_option maxRecDepth 100000 in
theorem kX11_init_77 {p : Program} {l : Launch} {e : Env} {s : State} {m : MethodId} {av : Array Value} {below : List Frame} {meth : Method} {c : Code} {G : Gv} {B n : Nat} {q : MS} (C : mC p s m av meth c cX11_init RX11 1 none) (hin : meth.name = "<init>") (hs : s.heap.size = B + n) (hn0 : 0 < n) (hnN : n + 47 ≤ 48) : ∀ (x0 : Nat) (y0 : Nat) (y1 : Nat) (S : MS) (H : Heap) (locs : List Loc) (ls : Array Slot), (x0 < n + 2) → (kdM x0 = 11) → (y0 < n + 2) → (kdM y0 = 11) → (y1 < n + 2) → (kdM y1 = 13) → mWb false G (shn shM (n + 2)) (Lq B 48) S (mcA shM B 48 n) s H locs → lv_has ls 1 [(0, .ref (ad (Lq B 48) x0))] → fX11_init_77 n x0 y0 y1 S = some q → W p l e (rmC 3 47 47000) s m av below meth c H locs 2 2000 (MQ below (mQ G shM (Lq B 48) q none (mcA shM B 48 n)) av s 47 47000 (mcA shM B 48 n)) (F0 m 77 ls [.ref (ad (Lq B 48) y1), .ref (ad (Lq B 48) y0)]) := by
  intro x0 y0 y1 S H locs ls lx0 hx0 ly0 hy0 ly1 hy1 hW hl hf
  unfold fX11_init_77 at hf
  refine lv_dup C.1 C.2.1 dX11_init_77 rfl ?_
  refine lv_bipush C.1 C.2.1 dX11_init_78 bp_13 ?_
  refine lv_iconst C.1 C.2.1 dX11_init_80 ic_5 ?_
  obtain ⟨hb101, hf⟩ := gd hf
  refine m_iast C hW ⟨(by show y1 < n + 2; omega), hy1⟩ hb101 dX11_init_81 (fun H locs hW => ?_)
  refine lv_dup C.1 C.2.1 dX11_init_82 rfl ?_
  refine lv_bipush C.1 C.2.1 dX11_init_83 bp_14 ?_
  refine lv_iconst C.1 C.2.1 dX11_init_85 ic_5 ?_
  obtain ⟨hb102, hf⟩ := gd hf
  refine m_iast C hW ⟨(by show y1 < n + 2; omega), hy1⟩ hb102 dX11_init_86 (fun H locs hW => ?_)
  refine lv_dup C.1 C.2.1 dX11_init_87 rfl ?_
  refine lv_bipush C.1 C.2.1 dX11_init_88 bp_15 ?_
  refine lv_iconst C.1 C.2.1 dX11_init_90 ic_0 ?_
  obtain ⟨hb103, hf⟩ := gd hf
  refine m_iast C hW ⟨(by show y1 < n + 2; omega), hy1⟩ hb103 dX11_init_91 (fun H locs hW => ?_)
  refine lv_dup C.1 C.2.1 dX11_init_92 rfl ?_
  refine lv_bipush C.1 C.2.1 dX11_init_93 bp_16 ?_
  refine lv_iconst C.1 C.2.1 dX11_init_95 ic_0 ?_
  obtain ⟨hb104, hf⟩ := gd hf
  refine m_iast C hW ⟨(by show y1 < n + 2; omega), hy1⟩ hb104 dX11_init_96 (fun H locs hW => ?_)
  refine lv_dup C.1 C.2.1 dX11_init_97 rfl ?_
  refine lv_bipush C.1 C.2.1 dX11_init_98 bp_17 ?_
  refine lv_iconst C.1 C.2.1 dX11_init_100 ic_0 ?_
  obtain ⟨hb105, hf⟩ := gd hf
  refine m_iast C hW ⟨(by show y1 < n + 2; omega), hy1⟩ hb105 dX11_init_101 (fun H locs hW => ?_)
  exact kX11_init_102 C hin hs hn0 hnN x0 y0 y1 _ _ _ _ (by omega) hx0 (by omega) hy0 (by omega) hy1 hW (lv_sub hl [0] rfl) hf

set_option maxRecDepth 100000 in
theorem kX11_init_52 {p : Program} {l : Launch} {e : Env} {s : State} {m : MethodId} {av : Array Value} {below : List Frame} {meth : Method} {c : Code} {G : Gv} {B n : Nat} {q : MS} (C : mC p s m av meth c cX11_init RX11 1 none) (hin : meth.name = "<init>") (hs : s.heap.size = B + n) (hn0 : 0 < n) (hnN : n + 47 ≤ 48) : ∀ (x0 : Nat) (y0 : Nat) (y1 : Nat) (S : MS) (H : Heap) (locs : List Loc) (ls : Array Slot), (x0 < n + 2) → (kdM x0 = 11) → (y0 < n + 2) → (kdM y0 = 11) → (y1 < n + 2) → (kdM y1 = 13) → mWb false G (shn shM (n + 2)) (Lq B 48) S (mcA shM B 48 n) s H locs → lv_has ls 1 [(0, .ref (ad (Lq B 48) x0))] → fX11_init_52 n x0 y0 y1 S = some q → W p l e (rmC 3 47 47000) s m av below meth c H locs 2 2000 (MQ below (mQ G shM (Lq B 48) q none (mcA shM B 48 n)) av s 47 47000 (mcA shM B 48 n)) (F0 m 52 ls [.ref (ad (Lq B 48) y1), .ref (ad (Lq B 48) y0)]) := by
  intro x0 y0 y1 S H locs ls lx0 hx0 ly0 hy0 ly1 hy1 hW hl hf
  unfold fX11_init_52 at hf
  refine lv_dup C.1 C.2.1 dX11_init_52 rfl ?_
  refine lv_bipush C.1 C.2.1 dX11_init_53 bp_8 ?_
  refine lv_iconst C.1 C.2.1 dX11_init_55 ic_0 ?_
  obtain ⟨hb106, hf⟩ := gd hf
  refine m_iast C hW ⟨(by show y1 < n + 2; omega), hy1⟩ hb106 dX11_init_56 (fun H locs hW => ?_)
  refine lv_dup C.1 C.2.1 dX11_init_57 rfl ?_
  refine lv_bipush C.1 C.2.1 dX11_init_58 bp_9 ?_
  refine lv_iconst C.1 C.2.1 dX11_init_60 ic_0 ?_
  obtain ⟨hb107, hf⟩ := gd hf
  refine m_iast C hW ⟨(by show y1 < n + 2; omega), hy1⟩ hb107 dX11_init_61 (fun H locs hW => ?_)
  refine lv_dup C.1 C.2.1 dX11_init_62 rfl ?_
  refine lv_bipush C.1 C.2.1 dX11_init_63 bp_10 ?_
  refine lv_iconst C.1 C.2.1 dX11_init_65 ic_0 ?_
  obtain ⟨hb108, hf⟩ := gd hf
  refine m_iast C hW ⟨(by show y1 < n + 2; omega), hy1⟩ hb108 dX11_init_66 (fun H locs hW => ?_)
  refine lv_dup C.1 C.2.1 dX11_init_67 rfl ?_
  refine lv_bipush C.1 C.2.1 dX11_init_68 bp_11 ?_
  refine lv_iconst C.1 C.2.1 dX11_init_70 ic_0 ?_
  obtain ⟨hb109, hf⟩ := gd hf
  refine m_iast C hW ⟨(by show y1 < n + 2; omega), hy1⟩ hb109 dX11_init_71 (fun H locs hW => ?_)
  refine lv_dup C.1 C.2.1 dX11_init_72 rfl ?_
  refine lv_bipush C.1 C.2.1 dX11_init_73 bp_12 ?_
  refine lv_iconst C.1 C.2.1 dX11_init_75 ic_0 ?_
  obtain ⟨hb110, hf⟩ := gd hf
  refine m_iast C hW ⟨(by show y1 < n + 2; omega), hy1⟩ hb110 dX11_init_76 (fun H locs hW => ?_)
  exact kX11_init_77 C hin hs hn0 hnN x0 y0 y1 _ _ _ _ (by omega) hx0 (by omega) hy0 (by omega) hy1 hW (lv_sub hl [0] rfl) hf

set_option maxRecDepth 100000 in
theorem kX11_init_30 {p : Program} {l : Launch} {e : Env} {s : State} {m : MethodId} {av : Array Value} {below : List Frame} {meth : Method} {c : Code} {G : Gv} {B n : Nat} {q : MS} (C : mC p s m av meth c cX11_init RX11 1 none) (hin : meth.name = "<init>") (hs : s.heap.size = B + n) (hn0 : 0 < n) (hnN : n + 47 ≤ 48) : ∀ (x0 : Nat) (y0 : Nat) (y1 : Nat) (S : MS) (H : Heap) (locs : List Loc) (ls : Array Slot), (x0 < n + 2) → (kdM x0 = 11) → (y0 < n + 2) → (kdM y0 = 11) → (y1 < n + 2) → (kdM y1 = 13) → mWb false G (shn shM (n + 2)) (Lq B 48) S (mcA shM B 48 n) s H locs → lv_has ls 1 [(0, .ref (ad (Lq B 48) x0))] → fX11_init_30 n x0 y0 y1 S = some q → W p l e (rmC 3 47 47000) s m av below meth c H locs 2 2000 (MQ below (mQ G shM (Lq B 48) q none (mcA shM B 48 n)) av s 47 47000 (mcA shM B 48 n)) (F0 m 30 ls [.ref (ad (Lq B 48) y1), .ref (ad (Lq B 48) y0)]) := by
  intro x0 y0 y1 S H locs ls lx0 hx0 ly0 hy0 ly1 hy1 hW hl hf
  unfold fX11_init_30 at hf
  refine lv_dup C.1 C.2.1 dX11_init_30 rfl ?_
  refine lv_iconst C.1 C.2.1 dX11_init_31 ic_3 ?_
  refine lv_iconst C.1 C.2.1 dX11_init_32 ic_0 ?_
  obtain ⟨hb111, hf⟩ := gd hf
  refine m_iast C hW ⟨(by show y1 < n + 2; omega), hy1⟩ hb111 dX11_init_33 (fun H locs hW => ?_)
  refine lv_dup C.1 C.2.1 dX11_init_34 rfl ?_
  refine lv_iconst C.1 C.2.1 dX11_init_35 ic_4 ?_
  refine lv_iconst C.1 C.2.1 dX11_init_36 ic_0 ?_
  obtain ⟨hb112, hf⟩ := gd hf
  refine m_iast C hW ⟨(by show y1 < n + 2; omega), hy1⟩ hb112 dX11_init_37 (fun H locs hW => ?_)
  refine lv_dup C.1 C.2.1 dX11_init_38 rfl ?_
  refine lv_iconst C.1 C.2.1 dX11_init_39 ic_5 ?_
  refine lv_iconst C.1 C.2.1 dX11_init_40 ic_0 ?_
  obtain ⟨hb113, hf⟩ := gd hf
  refine m_iast C hW ⟨(by show y1 < n + 2; omega), hy1⟩ hb113 dX11_init_41 (fun H locs hW => ?_)
  refine lv_dup C.1 C.2.1 dX11_init_42 rfl ?_
  refine lv_bipush C.1 C.2.1 dX11_init_43 bp_6 ?_
  refine lv_iconst C.1 C.2.1 dX11_init_45 ic_0 ?_
  obtain ⟨hb114, hf⟩ := gd hf
  refine m_iast C hW ⟨(by show y1 < n + 2; omega), hy1⟩ hb114 dX11_init_46 (fun H locs hW => ?_)
  refine lv_dup C.1 C.2.1 dX11_init_47 rfl ?_
  refine lv_bipush C.1 C.2.1 dX11_init_48 bp_7 ?_
  refine lv_iconst C.1 C.2.1 dX11_init_50 ic_0 ?_
  obtain ⟨hb115, hf⟩ := gd hf
  refine m_iast C hW ⟨(by show y1 < n + 2; omega), hy1⟩ hb115 dX11_init_51 (fun H locs hW => ?_)
  exact kX11_init_52 C hin hs hn0 hnN x0 y0 y1 _ _ _ _ (by omega) hx0 (by omega) hy0 (by omega) hy1 hW (lv_sub hl [0] rfl) hf

set_option maxRecDepth 100000 in
theorem cX11_init_ok {l : Launch} {G : Gv} {B n : Nat} {S : MS} {a0 : Nat} {q : MS} (la0 : a0 < n) (ka0 : kdM a0 = 11) (hf : fX11_init n a0 S = some q) : MtD l yX11_init cX11_init 1 3 47 47000 G shM B 48 n S [.ref (ad (Lq B 48) a0)] q := by
  unfold fX11_init at hf
  obtain ⟨hz0, hf⟩ := gd hf
  have hnN := of_decide_eq_true hz0
  have hn0 : 0 < n := by omega
  refine md_enter (lv := [(0, .ref (ad (Lq B 48) a0))]) (by decide) rfl (Nat.le_of_ble_eq_true rfl) rfl (by omega) ?_
  intro p e s m below meth c ls C hin hs hW hl
  refine lv_aload_n C.1 C.2.1 dX11_init_0 rfl (lv_at hl 0 rfl) ?_
  refine W.objInit C.1 C.2.1 C.2.2.2.1 (C.2.2.2.2.1 _ (gm_6 42 rfl rfl)) (C.2.2.2.2.1 _ ob_1) (C.2.2.2.2.1 _ ob_2) rfl (hl.1.trans C.2.2.1.symm) rfl dX11_init_1 (Nat.le_of_ble_eq_true rfl) (Nat.le_of_ble_eq_true rfl) ?_
  refine W.eq (g2 := F0 m 4 ls []) rfl ?_
  refine lv_aload_n C.1 C.2.1 dX11_init_4 rfl (lv_at hl 0 rfl) ?_
  refine lv_sipush C.1 C.2.1 dX11_init_5 sp_700 ?_
  obtain ⟨hg116, hf⟩ := gd hf
  have hk117 := okA_spec hg116
  refine mc_newarr (kd := 13) (k0 := 1) C hW (by omega) (by decide) (by omega) hk117.1 hk117.2.1 (mcell_i hk117.2.1) rfl rfl (fun _ h => by cases h) (fun _ => by rw [wip_I]; rfl) (gm_1 59 rfl rfl) hk117.2.2.1 hk117.2.2.2.1 hk117.2.2.2.2 (by decide) (Nat.le_of_ble_eq_true rfl) (Nat.le_of_ble_eq_true rfl) dX11_init_8 (fun H hW => ?_)
  refine W.widen (k := 1) (n := 1000) (Nat.le_refl _) (Nat.le_refl _) ?_
  have hW : mWb false G (shn shM (n + 1)) (Lq B 48) (wip S (n + 0)) (mcA shM B 48 n) s H _ := hW
  refine m_putrF C hin hW ⟨(by show a0 < n + 1; omega), ka0⟩ ffX11_7 (by decide) (Or.inr ⟨_, rfl⟩) ⟨(by show (n + 0) < n + 1; omega), hk117.2.1⟩ dX11_init_10 (fun H locs hW => ?_)
  refine lv_aload_n C.1 C.2.1 dX11_init_13 rfl (lv_at hl 0 rfl) ?_
  refine lv_bipush C.1 C.2.1 dX11_init_14 bp_26 ?_
  obtain ⟨hg118, hf⟩ := gd hf
  have hk119 := okA_spec hg118
  refine mc_newarr (kd := 13) (k0 := 1) C hW (by omega) (by decide) (by omega) hk119.1 hk119.2.1 (mcell_i hk119.2.1) rfl rfl (fun _ h => by cases h) (fun _ => by rw [wip_I]; rfl) (gm_1 59 rfl rfl) hk119.2.2.1 hk119.2.2.2.1 hk119.2.2.2.2 (by decide) (Nat.le_of_ble_eq_true rfl) (Nat.le_of_ble_eq_true rfl) dX11_init_16 (fun H hW => ?_)
  refine W.widen (k := 2) (n := 2000) (Nat.le_refl _) (Nat.le_refl _) ?_
  have hW : mWb false G (shn shM (n + 2)) (Lq B 48) (wip (pR (wip S (n + 0)) a0 1 (n + 0)) (n + 1)) (mcA shM B 48 n) s H _ := hW
  refine lv_dup C.1 C.2.1 dX11_init_18 rfl ?_
  refine lv_iconst C.1 C.2.1 dX11_init_19 ic_0 ?_
  refine lv_iconst C.1 C.2.1 dX11_init_20 ic_5 ?_
  obtain ⟨hb120, hf⟩ := gd hf
  refine m_iast C hW ⟨(by show (n + 1) < n + 2; omega), hk119.2.1⟩ hb120 dX11_init_21 (fun H locs hW => ?_)
  refine lv_dup C.1 C.2.1 dX11_init_22 rfl ?_
  refine lv_iconst C.1 C.2.1 dX11_init_23 ic_1 ?_
  refine lv_iconst C.1 C.2.1 dX11_init_24 ic_5 ?_
  obtain ⟨hb121, hf⟩ := gd hf
  refine m_iast C hW ⟨(by show (n + 1) < n + 2; omega), hk119.2.1⟩ hb121 dX11_init_25 (fun H locs hW => ?_)
  refine lv_dup C.1 C.2.1 dX11_init_26 rfl ?_
  refine lv_iconst C.1 C.2.1 dX11_init_27 ic_2 ?_
  refine lv_iconst C.1 C.2.1 dX11_init_28 ic_0 ?_
  obtain ⟨hb122, hf⟩ := gd hf
  refine m_iast C hW ⟨(by show (n + 1) < n + 2; omega), hk119.2.1⟩ hb122 dX11_init_29 (fun H locs hW => ?_)
  exact kX11_init_30 C hin hs hn0 hnN a0 a0 (n + 1) _ _ _ _ (by omega) ka0 (by omega) ka0 (by omega) hk119.2.1 hW (lv_sub hl [0] rfl) hf
