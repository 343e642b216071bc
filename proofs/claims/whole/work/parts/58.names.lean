/-! ===== the names that a law sees ===== -/
def hr24 (x : Int32) : Int32 := x - x / 24 * 24
def bitsI (x : Int32) : Int32 := (fX11_bitsOf x S00).getD 0
theorem M_bits {x : Int32} {S : MS} : fX11_bitsOf x S = some (bitsI x) := rfl
set_option maxRecDepth 100000 in
theorem bits_dec : ∀ k, k < 256 → (fJ6_bitCount_0f7a4 (nI k) S00).getD 0 = bitsI (nI k) := by decide +kernel
theorem X_bits {x : Int32} {S : MS} (h : 0 ≤ x) (h2 : x < 256) : fJ6_bitCount_0f7a4 x S = some (bitsI x) := by
  obtain ⟨k, hk, rfl⟩ := nI_of (Int32.not_lt.mpr h)
  have h3 : k < 256 := (nI_ltI hk (by decide)).mp h2
  rw [← bits_dec k h3]; rfl
def nmW (w : Nat → Int32) (far met trod at_ : Int32) : Nat → Int32 := fun k => if k = 0 then far else if k = 1 then met else if k = 2 then trod else if k = 3 then bitsI (w 8) else if k = 4 then w 6 else if k = 5 then bitsI (w 7) else if k = 6 then at_ else 0
theorem runK_congr {nm n2 : Nat → Int32} (h : ∀ j, j < 7 → nm j = n2 j) : ∀ (l : List Int32) (st : List Int64), runK nm l st = runK n2 l st
  | [], st => rfl
  | k :: l, st => by
    have e : stepK nm k st = stepK n2 k st := by
      unfold stepK
      by_cases k1 : 37 ≤ -k ∧ -k ≤ 43
      · have k3 := i37 k1.1 k1.2
        rw [h _ (clamp_lt k3.1 k3.2 (by decide))]
      · simp only [k1, if_false]
    simp only [runK, e]
    congr 1
    funext st1
    exact runK_congr h l st1
theorem lawV_congr {nm n2 : Nat → Int32} {l : List Int32} (h : ∀ j, j < 7 → nm j = n2 j) : lawV l nm = lawV l n2 := by unfold lawV; rw [runK_congr h]
theorem wthn_congr {nm n2 : Nat → Int32} {l : List Int32} {a b : Int32} (h : ∀ j, j < 7 → nm j = n2 j) : wthn l nm a b = wthn l n2 a b := by unfold wthn; rw [lawV_congr h]
def P53 (o j : Nat) : Prop := o = 53
theorem P53_X {w : Nat} : ∀ o j, P53 o j → PX w o j := fun o j h => Or.inl h
def WB (w : Nat → Int32) : Prop := 0 ≤ w 7 ∧ w 7 < 16 ∧ 0 ≤ w 8 ∧ w 8 < 256
theorem i16 {x : Int32} (h : x < 16) : x < 256 := by grind
theorem X_tell {t w : Nat} {S : MS} {far met trod : Int32} (h : RX t S) (hw : isW w) (hb : WB (wX S w)) :
    ∃ S1, fX0_tell 52 w far met trod S = some S1 ∧ Fr P53 S S1 ∧ (∀ j, j < 7 → gI S1 53 j = nmW (wX S w) far met trod (hr24 (gI S w 3)) j) := by
  have hw1 : ∀ j, gI S w j = gI S w j := fun _ => rfl
  have hne : w ≠ 53 := by have := isW_ge hw; omega
  have e8 : gI S w 8 = wX S w 8 := rfl
  have e7 : gI S w 7 = wX S w 7 := rfl
  have e6 : gI S w 6 = wX S w 6 := rfl
  have b8 := fun S' => X_bits (S := S') hb.2.2.1 hb.2.2.2
  have b7 := fun S' => X_bits (S := S') hb.1 (i16 hb.2.1)
  have bb : ∀ k : Nat, k < 7 → bnd (nI k) 7 = true := fun k hk => bnd_nI hk (by decide)
  refine ⟨(pI (pI (pI (pI (pI (pI (pI S 53 0 far) 53 1 met) 53 2 trod) 53 3 (bitsI (wX S w 8))) 53 4 (wX S w 6)) 53 5 (bitsI (wX S w 7))) 53 6 (hr24 (gI S w 3))), ?_, ?_, ?_⟩
  · unfold fX0_tell fX0_tell_14 fX0_tell_35 fX0_tell_58
    simp only [gR_pI, rx_52_0 h, lx_53, show (0 : Int32) = nI 0 from rfl, show (1 : Int32) = nI 1 from rfl, show (2 : Int32) = nI 2 from rfl, show (3 : Int32) = nI 3 from rfl, show (4 : Int32) = nI 4 from rfl, show (5 : Int32) = nI 5 from rfl, show (6 : Int32) = nI 6 from rfl, bb 0 (by decide), bb 1 (by decide), bb 2 (by decide), bb 3 (by decide), bb 4 (by decide), bb 5 (by decide), bb 6 (by decide), if_true, gI_neo hne, e8, e7, e6, b8, b7, Option.bind_some]
    rfl
  · exact (((((((Fr.rf (P := P53)).pI (show P53 53 0 from rfl)).pI (show P53 53 1 from rfl)).pI (show P53 53 2 from rfl)).pI (show P53 53 3 from rfl)).pI (show P53 53 4 from rfl)).pI (show P53 53 5 from rfl)).pI (show P53 53 6 from rfl)
  · intro j hj
    simp only [gI_pI, nmW]
    rcases (by omega : j = 0 ∨ j = 1 ∨ j = 2 ∨ j = 3 ∨ j = 4 ∨ j = 5 ∨ j = 6) with rfl | rfl | rfl | rfl | rfl | rfl | rfl <;> simp
theorem X_within_0 {t : Nat} {S : MS} {most without : Int32} (h : RX t S) (hk : WK (tX S t)) (h0 : 0 ≤ gI S (t + 14) 2) : ∃ S1, Jo S S1 ∧ fX0_within 52 (0 : Int32) most without S = some (wthn (lwl (tX S t) 0) (gI S 53) most without, S1) := by
  obtain ⟨S1, h1, h2⟩ := X_work_0 h h.1 hk h0
  refine ⟨S1, h1, ?_⟩
  unfold fX0_within
  rw [rx_52_0 h, rx_ctold h, rt_7 h h.1, lt_13 h.1, show bnd (0 : Int32) 3 = true from rfl, if_pos rfl, show (0 : Int32).toNatClampNeg = 0 from rfl, rl_0 h h.1, h2, Option.bind_some]
  unfold wthn
  have ce : lg_cmp (lawV (lwl (tX S t) 0) (gI S 53)) (-9223372036854775808) = 0 ↔ lawV (lwl (tX S t) 0) (gI S 53) = ERR := cmp0
  by_cases c : lawV (lwl (tX S t) 0) (gI S 53) = ERR
  · simp only [c, if_true, show lg_cmp ERR (-9223372036854775808) = 0 from rfl]
  · simp only [ce, c, if_false]
theorem X_within_1 {t : Nat} {S : MS} {most without : Int32} (h : RX t S) (hk : WK (tX S t)) (h0 : 0 ≤ gI S (t + 17) 2) : ∃ S1, Jo S S1 ∧ fX0_within 52 (1 : Int32) most without S = some (wthn (lwl (tX S t) 1) (gI S 53) most without, S1) := by
  obtain ⟨S1, h1, h2⟩ := X_work_1 h h.1 hk h0
  refine ⟨S1, h1, ?_⟩
  unfold fX0_within
  rw [rx_52_0 h, rx_ctold h, rt_7 h h.1, lt_13 h.1, show bnd (1 : Int32) 3 = true from rfl, if_pos rfl, show (1 : Int32).toNatClampNeg = 1 from rfl, rl_1 h h.1, h2, Option.bind_some]
  unfold wthn
  have ce : lg_cmp (lawV (lwl (tX S t) 1) (gI S 53)) (-9223372036854775808) = 0 ↔ lawV (lwl (tX S t) 1) (gI S 53) = ERR := cmp0
  by_cases c : lawV (lwl (tX S t) 1) (gI S 53) = ERR
  · simp only [c, if_true, show lg_cmp ERR (-9223372036854775808) = 0 from rfl]
  · simp only [ce, c, if_false]
theorem X_within_2 {t : Nat} {S : MS} {most without : Int32} (h : RX t S) (hk : WK (tX S t)) (h0 : 0 ≤ gI S (t + 20) 2) : ∃ S1, Jo S S1 ∧ fX0_within 52 (2 : Int32) most without S = some (wthn (lwl (tX S t) 2) (gI S 53) most without, S1) := by
  obtain ⟨S1, h1, h2⟩ := X_work_2 h h.1 hk h0
  refine ⟨S1, h1, ?_⟩
  unfold fX0_within
  rw [rx_52_0 h, rx_ctold h, rt_7 h h.1, lt_13 h.1, show bnd (2 : Int32) 3 = true from rfl, if_pos rfl, show (2 : Int32).toNatClampNeg = 2 from rfl, rl_2 h h.1, h2, Option.bind_some]
  unfold wthn
  have ce : lg_cmp (lawV (lwl (tX S t) 2) (gI S 53)) (-9223372036854775808) = 0 ↔ lawV (lwl (tX S t) 2) (gI S 53) = ERR := cmp0
  by_cases c : lawV (lwl (tX S t) 2) (gI S 53) = ERR
  · simp only [c, if_true, show lg_cmp ERR (-9223372036854775808) = 0 from rfl]
  · simp only [ce, c, if_false]
theorem M_calls {r : Nat} {S : MS} {far met trod at_ : Int32} (hM : MR S) (hr : r < 23) :
    ∃ S1, fX11_calls 0 (nI r) far met trod at_ S = some S1 ∧ Jo S S1 ∧ (∀ j, j < 7 → gJ S1 25 j = (nmW (wM S r) far met trod at_ j).toInt64) := by
  have bb : ∀ k : Nat, k < 7 → bnd (nI k) 7 = true := fun k hk => bnd_nI hk (by decide)
  have e8 : gI S 35 r = wM S r 8 := rfl
  have e7 : gI S 34 r = wM S r 7 := rfl
  have e6 : gI S 32 r = wM S r 6 := rfl
  refine ⟨(pJ (pJ (pJ (pJ (pJ (pJ (pJ S 25 0 far.toInt64) 25 1 met.toInt64) 25 2 trod.toInt64) 25 3 (bitsI (wM S r 8)).toInt64) 25 4 (wM S r 6).toInt64) 25 5 (bitsI (wM S r 7)).toInt64) 25 6 at_.toInt64), ?_, ?_, ?_⟩
  · unfold fX11_calls fX11_calls_16 fX11_calls_41 fX11_calls_70
    simp only [gR_pJ, gI_pJ, mr_40 hM, mr_48 hM, mr_50 hM, mr_51 hM, lm_25, lm_32, lm_34, lm_35, show (0 : Int32) = nI 0 from rfl, show (1 : Int32) = nI 1 from rfl, show (2 : Int32) = nI 2 from rfl, show (3 : Int32) = nI 3 from rfl, show (4 : Int32) = nI 4 from rfl, show (5 : Int32) = nI 5 from rfl, show (6 : Int32) = nI 6 from rfl, bb 0 (by decide), bb 1 (by decide), bb 2 (by decide), bb 3 (by decide), bb 4 (by decide), bb 5 (by decide), bb 6 (by decide), bnd_nI hr (by decide), if_true, nI_clamp (show r < 2 ^ 31 by omega), e8, e7, e6, M_bits, Option.bind_some]
    rfl
  · exact ⟨rfl, rfl⟩
  · intro j hj
    simp only [gJ_pJ, nmW]
    rcases (by omega : j = 0 ∨ j = 1 ∨ j = 2 ∨ j = 3 ∨ j = 4 ∨ j = 5 ∨ j = 6) with rfl | rfl | rfl | rfl | rfl | rfl | rfl <;> simp
