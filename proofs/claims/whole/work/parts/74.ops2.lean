/-! ===== worths, counts, two men, odds ===== -/
def worGo (T : TT) (x : Int32) : Nat → Nat → Int32 → Int32
  | 0, _, a => a
  | n + 1, i, a => worGo T x n (i + 1) (if (x >>> (nI i &&& 31)) &&& 1 = 1 then a + tb T 3 i 4 else a)
def worS (T : TT) (x : Int32) : Int32 := worGo T x (nq T 3) 0 0
theorem X_wor_go {t : Nat} {S : MS} {T : TT} {x : Int32} (h : XO t S) (et : tX S t = T) (hC : WC T) : ∀ (d i fuel : Nat) (a : Int32), nq T 3 = i + d → d < fuel → fX8_worthOf_4 fuel t x a (nI i) S = some (worGo T x d i a) := by
  have hn := nq_le hC
  have es : gI S (t + 9) 3 = nI (nq T 3) := by rw [← et]; exact (nI_back (et ▸ hC 3 (by decide)).1).symm
  intro d
  induction d with
  | zero =>
    intro i fuel a e1 e2
    obtain ⟨f, rfl⟩ : ∃ f, fuel = f + 1 := ⟨fuel - 1, by omega⟩
    unfold fX8_worthOf_4 fX7_size
    rw [rt_5 h.1 h.1.1, es, Option.bind_some, e1, Nat.add_zero, if_pos (Int32.le_refl _)]
    rfl
  | succ d ih =>
    intro i fuel a e1 e2
    obtain ⟨f, rfl⟩ : ∃ f, fuel = f + 1 := ⟨fuel - 1, by omega⟩
    have hin : ¬ nI (nq T 3) ≤ nI i := by rw [nI_leI (by omega) (by omega)]; omega
    have g := X_g_3_4 (x := nI i) h.1 h.2.1 h.1.1 (by rw [et]; exact hC)
    rw [et, tb_get (by omega)] at g
    unfold fX8_worthOf_4 fX7_size fX8_worthOf_36
    rw [rt_5 h.1 h.1.1, es, Option.bind_some, if_neg hin, g, Option.bind_some, nI_1, ih (i + 1) f _ (by omega) (by omega), ih (i + 1) f _ (by omega) (by omega)]
    show _ = some (worGo T x d (i + 1) (if (x >>> (nI i &&& 31)) &&& 1 = 1 then a + tb T 3 i 4 else a))
    split <;> rfl
theorem X_wor {t : Nat} {S : MS} {T : TT} {x : Int32} (h : XO t S) (et : tX S t = T) (hC : WC T) : fX8_worthOf t x S = some (worS T x) := by
  have hn := nq_le hC
  exact X_wor_go h et hC _ 0 1000 0 (Nat.zero_add _).symm (by omega)
theorem M_wor_go {r : Nat} {S : MS} {T : TT} (h : MR S) (et : tM S = T) (hC : WC T) (hr : r < 23) : ∀ (d i fuel : Nat) (a : Int32), nq T 3 = i + d → d < fuel → fX11_worthOf_4 fuel 0 (nI r) a (nI i) S = some (worGo T (wM S r 8) d i a) := by
  have hn := nq_le hC
  have ec : gI S 2 8 = nI (nq T 3) := by have := (M_cnt (S := S) (q := 3) (by rw [et]; exact hC) (by decide)).1; rw [et] at this; exact this
  have e8 : gI S 35 r = wM S r 8 := rfl
  intro d
  induction d with
  | zero =>
    intro i fuel a e1 e2
    obtain ⟨f, rfl⟩ : ∃ f, fuel = f + 1 := ⟨fuel - 1, by omega⟩
    unfold fX11_worthOf_4
    rw [mr_3 h, lm_2, show bnd (8 : Int32) 26 = true from rfl, if_pos rfl, show (8 : Int32).toNatClampNeg = 8 from rfl, ec, e1, Nat.add_zero, if_pos (Int32.le_refl _)]
    rfl
  | succ d ih =>
    intro i fuel a e1 e2
    obtain ⟨f, rfl⟩ : ∃ f, fuel = f + 1 := ⟨fuel - 1, by omega⟩
    have hin : ¬ nI (nq T 3) ≤ nI i := by rw [nI_leI (by omega) (by omega)]; omega
    have g : gI S 17 i = tb T 3 i 4 := by rw [← et]; exact (M_tb (q := 3) (c := 4) (by decide) (by decide) (by rw [et]; omega)).symm
    unfold fX11_worthOf_4 fX11_worthOf_40
    rw [mr_3 h, lm_2, show bnd (8 : Int32) 26 = true from rfl, if_pos rfl, show (8 : Int32).toNatClampNeg = 8 from rfl, ec, if_neg hin, mr_51 h, lm_35, bnd_nI hr (by decide), if_pos rfl, nI_clamp (show r < 2 ^ 31 by omega), e8, mr_18 h, lm_17, bnd_nI (show i < 16 by omega) (by decide), if_pos rfl, nI_clamp (show i < 2 ^ 31 by omega), g, nI_1, ih (i + 1) f _ (by omega) (by omega), ih (i + 1) f _ (by omega) (by omega), add0]
    show _ = some (worGo T (wM S r 8) d (i + 1) (if (wM S r 8 >>> (nI i &&& 31)) &&& 1 = 1 then a + tb T 3 i 4 else a))
    split <;> rfl
theorem M_wor {r : Nat} {S : MS} {T : TT} (h : MR S) (et : tM S = T) (hC : WC T) (hr : r < 23) : fX11_worthOf 0 (nI r) S = some (worS T (wM S r 8)) := by
  have hn := nq_le hC
  exact M_wor_go h et hC hr _ 0 1000 0 (Nat.zero_add _).symm (by omega)
theorem W87 : isW 87 := by unfold isW; decide
theorem W91 : isW 91 := by unfold isW; decide
theorem W95 : isW 95 := by unfold isW; decide
theorem sim_32 : Sim_32 Inv := by
  intro SX SM z0 h
  refine sim_ro h ?_
  obtain ⟨t, T, h⟩ := h
  have hw := h.th.2.1.1
  have hb := h.th.2.1.2.1.2.1
  obtain ⟨n, hn, hs1, hs2, hs3, -, -⟩ := h.th.2.2.2.2.1
  obtain ⟨nl, hl, hl1, hl2, -⟩ := h.th.2.2.2.1
  obtain ⟨hX, hM, ex, em, hW, h57, hE⟩ := h.th.1
  have hC := hW.1
  have hM1 := hM.1
  have w : ∀ k, wX SX 87 k = wM (th0 SM) 0 k := fun k => congrFun hw k
  have w3 : gI SX 87 3 = gI (th0 SM) 27 0 := w 3
  have w8 : gI SX 87 8 = gI (th0 SM) 35 0 := w 8
  have w7 : gI SX 87 7 = gI (th0 SM) 34 0 := w 7
  have w9 : gI SX 87 9 = gI (th0 SM) 29 0 := w 9
  have w10 : gI SX 87 10 = gI (th0 SM) 33 0 := w 10
  have s1 : gI SX (t + 5) 3 = gI (th0 SM) 2 6 := by have := congrArg (fun T => sc T 1) (ex.trans em.symm); exact this
  have s3 : gI SX (t + 9) 3 = gI (th0 SM) 2 8 := by have := congrArg (fun T => sc T 3) (ex.trans em.symm); exact this
  have s4 : gI SX (t + 11) 3 = gI (th0 SM) 2 9 := by have := congrArg (fun T => sc T 4) (ex.trans em.symm); exact this
  have s8 : gI SX t 8 = gI (th0 SM) 2 0 := by have := congrArg (fun T => sc T 8) (ex.trans em.symm); exact this
  have s9 : gI SX t 9 = gI (th0 SM) 2 1 := by have := congrArg (fun T => sc T 9) (ex.trans em.symm); exact this
  have s15 : gI SX t 15 = gI (th0 SM) 2 12 := by have := congrArg (fun T => sc T 15) (ex.trans em.symm); exact this
  have b8 : fJ6_bitCount_0f7a4 (gI (th0 SM) 35 0) SX = some (bitsI (gI (th0 SM) 35 0)) := X_bits hb.2.2.1 hb.2.2.2
  have b7 : fJ6_bitCount_0f7a4 (gI (th0 SM) 34 0) SX = some (bitsI (gI (th0 SM) 34 0)) := X_bits hb.1 (i16 hb.2.1)
  have v1 := X_wor (x := gI (th0 SM) 35 0) hX ex hC
  have v2 := M_wor (r := 0) hM1 em hC (by decide)
  have v2' : fX11_worthOf 0 (0 : Int32) (th0 SM) = some (worS T (gI (th0 SM) 35 0)) := v2
  unfold fX10_count fX11_count fX6_size fX6_reach fX7_size fX11_knownMany
  simp only [rx_told hX.1, rt_3 hX.1 hX.1.1, rt_5 hX.1 hX.1.1, rt_6 hX.1 hX.1.1, rx_0_7 hX.1, rx_0_8 hX.1, rx_0_9 hX.1, rx_83_0 hX.1, mr_3 hM1, mr_43 hM1, mr_45 hM1, mr_49 hM1, mr_50 hM1, mr_51 hM1, lm_2, lm_27, lm_29, lm_33, lm_34, lm_35, show bnd (0 : Int32) 26 = true from rfl, show bnd (1 : Int32) 26 = true from rfl, show bnd (6 : Int32) 26 = true from rfl, show bnd (8 : Int32) 26 = true from rfl, show bnd (9 : Int32) 26 = true from rfl, show bnd (12 : Int32) 26 = true from rfl, show bnd (0 : Int32) 23 = true from rfl, if_true, show (0 : Int32).toNatClampNeg = 0 from rfl, show (1 : Int32).toNatClampNeg = 1 from rfl, show (6 : Int32).toNatClampNeg = 6 from rfl, show (8 : Int32).toNatClampNeg = 8 from rfl, show (9 : Int32).toNatClampNeg = 9 from rfl, show (12 : Int32).toNatClampNeg = 12 from rfl, w3, w7, w8, w9, w10, s1, s3, s4, s8, s9, s15, b7, b8, v1, v2', M_bits, Option.bind_some, hs1, hs2, hs3, hl1, hl2]
  by_cases k0 : z0 = 0
  · rw [if_pos k0, if_pos k0]; exact ⟨_, rfl, rfl⟩
  rw [if_neg k0, if_neg k0]
  by_cases k1 : z0 = 1
  · rw [if_pos k1, if_pos k1]; exact ⟨_, rfl, rfl⟩
  rw [if_neg k1, if_neg k1]
  by_cases k2 : z0 = 2
  · rw [if_pos k2, if_pos k2]; exact ⟨_, rfl, rfl⟩
  rw [if_neg k2, if_neg k2]
  by_cases k3 : z0 = 3
  · rw [if_pos k3, if_pos k3]; exact ⟨_, rfl, rfl⟩
  rw [if_neg k3, if_neg k3]
  by_cases k4 : z0 = 4
  · rw [if_pos k4, if_pos k4]; exact ⟨_, rfl, rfl⟩
  rw [if_neg k4, if_neg k4]
  by_cases k5 : z0 = 5
  · rw [if_pos k5, if_pos k5]; exact ⟨_, rfl, rfl⟩
  rw [if_neg k5, if_neg k5]
  by_cases k6 : z0 = 6
  · rw [if_pos k6, if_pos k6]; exact ⟨_, rfl, rfl⟩
  rw [if_neg k6, if_neg k6]
  by_cases k7 : z0 = 7
  · rw [if_pos k7, if_pos k7]; exact ⟨_, rfl, rfl⟩
  rw [if_neg k7, if_neg k7]
  by_cases k8 : z0 = 8
  · rw [if_pos k8, if_pos k8]; exact ⟨_, rfl, rfl⟩
  rw [if_neg k8, if_neg k8]
  by_cases k9 : z0 = 9
  · rw [if_pos k9, if_pos k9]; exact ⟨_, rfl, rfl⟩
  rw [if_neg k9, if_neg k9]
  by_cases k10 : z0 = 10
  · rw [if_pos k10, if_pos k10]; exact ⟨_, rfl, rfl⟩
  rw [if_neg k10, if_neg k10]
  by_cases k11 : z0 = 11
  · rw [if_pos k11, if_pos k11]; exact ⟨_, rfl, rfl⟩
  rw [if_neg k11, if_neg k11]
  by_cases k12 : z0 = 12
  · rw [if_pos k12, if_pos k12]; exact ⟨_, rfl, rfl⟩
  rw [if_neg k12, if_neg k12]
  by_cases k13 : z0 = 13
  · rw [if_pos k13, if_pos k13]
    by_cases kk : gI (th0 SM) 0 67 = -1
    · rw [if_pos kk]; exact ⟨_, rfl, rfl⟩
    · rw [if_neg kk]; exact ⟨_, rfl, rfl⟩
  rw [if_neg k13, if_neg k13]
  by_cases k14 : z0 = 14
  · rw [if_pos k14, if_pos k14]; exact ⟨_, rfl, rfl⟩
  rw [if_neg k14, if_neg k14]
  exact ⟨_, rfl, rfl⟩
def shI (w : Nat → Int32) (i j : Nat) (a b : Int32) : Int32 :=
  if a = b then (if w (40 + i) ≤ w (40 + j) then (if a = 0 then w (20 + i) else w (30 + i)) / 2 + 0 else (if a = 0 then w (20 + i) else w (30 + i)) / 2 + 1) else (if a = 0 then w (20 + i) else w (30 + i))
theorem X_share {t i j : Nat} {S : MS} {a b : Int32} (h : RX t S) (hi : i < 4) (hj : j < 4) : fX10_shareOf 0 (nI i) (nI j) a b S = some (shI (wX S 87) i j a b) := by
  unfold fX10_shareOf fX10_shareOf_25 shI
  have e1 : gI S 88 i = wX S 87 (20 + i) := (wX_20 (S := S) (w := 87) hi).symm
  have e2 : gI S 89 i = wX S 87 (30 + i) := (wX_30 (S := S) (w := 87) hi).symm
  have e3 : gI S 90 i = wX S 87 (40 + i) := (wX_40 (S := S) (w := 87) hi).symm
  have e4 : gI S 90 j = wX S 87 (40 + j) := (wX_40 (S := S) (w := 87) hj).symm
  simp only [rx_0_9 h, rw_0 h W87, rw_1 h W87, rw_2 h W87, lw_1 W87, lw_2 W87, lw_3 W87, bnd_nI hi (by decide), bnd_nI hj (by decide), if_true, nI_clamp (show i < 2 ^ 31 by omega), nI_clamp (show j < 2 ^ 31 by omega), e1, e2, e3, e4]
  by_cases c0 : a = 0
  · simp only [c0, if_true]; split <;> (try split) <;> rfl
  · simp only [c0, if_false]; split <;> (try split) <;> rfl
theorem M_share {i j : Nat} {S : MS} {a b : Int32} (h : MR S) (hi : i < 4) (hj : j < 4) : fX11_hasOf 0 (nI i) (nI j) a b S = some (shI (wM S 0) i j a b) := by
  unfold fX11_hasOf fX11_hasOf_19 shI
  have e1 : gI S 36 i = wM S 0 (20 + i) := by rw [wM_20 hi, Nat.mul_zero, Nat.zero_add]
  have e2 : gI S 37 i = wM S 0 (30 + i) := by rw [wM_30 hi, Nat.mul_zero, Nat.zero_add]
  have e3 : gI S 38 i = wM S 0 (40 + i) := by rw [wM_40 hi, Nat.mul_zero, Nat.zero_add]
  have e4 : gI S 38 j = wM S 0 (40 + j) := by rw [wM_40 hj, Nat.mul_zero, Nat.zero_add]
  simp only [mr_52 h, mr_53 h, mr_54 h, lm_36, lm_37, lm_38, bnd_nI (show i < 92 by omega) (by decide), bnd_nI (show j < 92 by omega) (by decide), if_true, nI_clamp (show i < 2 ^ 31 by omega), nI_clamp (show j < 2 ^ 31 by omega), e1, e2, e3, e4]
  by_cases c0 : a = 0
  · simp only [c0, if_true]; split <;> (try split) <;> rfl
  · simp only [c0, if_false]; split <;> (try split) <;> rfl
def rstB (w : Nat → Int32) (i j : Nat) (x : Int32) : Bool :=
  !decide (shI w i j (x / 2) (x - x / 2 * 2) < shI w i j (1 - x / 2) (x - x / 2 * 2)) && !decide (shI w j i (x - x / 2 * 2) (x / 2) < shI w j i (1 - (x - x / 2 * 2)) (x / 2))
theorem X_rst {t i j : Nat} {S : MS} {x : Int32} (h : RX t S) (hi : i < 4) (hj : j < 4) : fX10_isRest 0 (nI i) (nI j) x S = some (b2i (rstB (wX S 87) i j x)) := by
  unfold fX10_isRest rstB
  simp only [X_share h hi hj, X_share h hj hi, Option.bind_some]
  split
  · rename_i c; simp [c, b2i]
  · rename_i c; simp only [c, decide_false, Bool.not_false, Bool.true_and]
    split
    · rename_i c; simp [c, b2i]
    · rename_i c; simp [c, b2i]
theorem M_rst {i j : Nat} {S : MS} {x : Int32} (h : MR S) (hi : i < 4) (hj : j < 4) : fX11_isRest 0 (nI i) (nI j) x S = some (b2i (rstB (wM S 0) i j x)) := by
  unfold fX11_isRest rstB
  simp only [M_share h hi hj, M_share h hj hi, Option.bind_some]
  split
  · rename_i c; simp [c, b2i]
  · rename_i c; simp only [c, decide_false, Bool.not_false, Bool.true_and]
    split
    · rename_i c; simp [c, b2i]
    · rename_i c; simp [c, b2i]
def rstGo (B : Int32 → Bool) (k : Int32) : Nat → Nat → Int32 → Int32
  | 0, _, n => if k = -1 then n else -2
  | d + 1, i, n => if B (nI i) = true then (if n = k then nI i / 2 * 10 + (nI i - nI i / 2 * 2) else rstGo B k d (i + 1) (n + 1)) else rstGo B k d (i + 1) n
theorem M_rst_go {i j : Nat} {S : MS} {k : Int32} (h : MR S) (hi : i < 4) (hj : j < 4) : ∀ (d x fuel : Nat) (n : Int32), 4 = x + d → d < fuel → fX11_restOf_6 fuel 0 (nI i) (nI j) k n (nI x) S = some (rstGo (rstB (wM S 0) i j) k d x n) := by
  intro d
  induction d with
  | zero =>
    intro x fuel n e1 e2
    obtain ⟨f, rfl⟩ : ∃ f, fuel = f + 1 := ⟨fuel - 1, by omega⟩
    unfold fX11_restOf_6
    rw [show x = 4 from by omega, if_pos (by decide)]
    unfold rstGo
    split <;> rfl
  | succ d ih =>
    intro x fuel n e1 e2
    obtain ⟨f, rfl⟩ : ∃ f, fuel = f + 1 := ⟨fuel - 1, by omega⟩
    unfold fX11_restOf_6 fX11_restOf_48
    rw [if_neg (nle4 (by omega)), M_rst h hi hj, Option.bind_some, nI_1, ih (x + 1) f _ (by omega) (by omega), ih (x + 1) f _ (by omega) (by omega)]
    show _ = some (if rstB (wM S 0) i j (nI x) = true then (if n = k then nI x / 2 * 10 + (nI x - nI x / 2 * 2) else rstGo (rstB (wM S 0) i j) k d (x + 1) (n + 1)) else rstGo (rstB (wM S 0) i j) k d (x + 1) n)
    cases rstB (wM S 0) i j (nI x) with
    | false => rfl
    | true =>
      rw [if_neg b2i_t, if_pos rfl, show (10 : Int32) * (nI x / 2) = nI x / 2 * 10 from Int32.mul_comm _ _]
      split <;> rfl
theorem X_rst_go {t i j : Nat} {S : MS} {k : Int32} (h : RX t S) (hi : i < 4) (hj : j < 4) (hk : 0 ≤ k) : ∀ (d x fuel : Nat) (n : Int32), 4 = x + d → d < fuel → fX10_rest_33 fuel 0 (nI i) (nI j) k n (nI x) S = some (rstGo (rstB (wX S 87) i j) k d x n) := by
  intro d
  induction d with
  | zero =>
    intro x fuel n e1 e2
    obtain ⟨f, rfl⟩ : ∃ f, fuel = f + 1 := ⟨fuel - 1, by omega⟩
    unfold fX10_rest_33
    rw [show x = 4 from by omega, if_pos (by decide)]
    unfold rstGo
    rw [if_neg (by rintro rfl; exact absurd hk (by decide))]
  | succ d ih =>
    intro x fuel n e1 e2
    obtain ⟨f, rfl⟩ : ∃ f, fuel = f + 1 := ⟨fuel - 1, by omega⟩
    unfold fX10_rest_33 fX10_rest_72
    rw [if_neg (nle4 (by omega)), X_rst h hi hj, Option.bind_some, nI_1, ih (x + 1) f _ (by omega) (by omega), ih (x + 1) f _ (by omega) (by omega)]
    show _ = some (if rstB (wX S 87) i j (nI x) = true then (if n = k then nI x / 2 * 10 + (nI x - nI x / 2 * 2) else rstGo (rstB (wX S 87) i j) k d (x + 1) (n + 1)) else rstGo (rstB (wX S 87) i j) k d (x + 1) n)
    cases rstB (wX S 87) i j (nI x) with
    | false => rfl
    | true =>
      rw [if_neg b2i_t, if_pos rfl]
      split <;> rfl
theorem X_rsts_go {t i j : Nat} {S : MS} (h : RX t S) (hi : i < 4) (hj : j < 4) : ∀ (d x fuel n : Nat), 4 = x + d → d < fuel → n ≤ x → fX10_rests_28 fuel 0 (nI i) (nI j) (nI n) (nI x) S = some (rstGo (rstB (wX S 87) i j) (-1) d x (nI n)) := by
  intro d
  induction d with
  | zero =>
    intro x fuel n e1 e2 hn
    obtain ⟨f, rfl⟩ : ∃ f, fuel = f + 1 := ⟨fuel - 1, by omega⟩
    unfold fX10_rests_28
    rw [show x = 4 from by omega, if_pos (by decide)]
    unfold rstGo
    rw [if_pos rfl]
  | succ d ih =>
    intro x fuel n e1 e2 hn
    obtain ⟨f, rfl⟩ : ∃ f, fuel = f + 1 := ⟨fuel - 1, by omega⟩
    unfold fX10_rests_28 fX10_rests_48
    rw [if_neg (nle4 (by omega)), X_rst h hi hj, Option.bind_some, nI_1, nI_1, ih (x + 1) f _ (by omega) (by omega) (by omega), ih (x + 1) f _ (by omega) (by omega) (by omega)]
    show _ = some (if rstB (wX S 87) i j (nI x) = true then (if nI n = -1 then nI x / 2 * 10 + (nI x - nI x / 2 * 2) else rstGo (rstB (wX S 87) i j) (-1) d (x + 1) (nI n + 1)) else rstGo (rstB (wX S 87) i j) (-1) d (x + 1) (nI n))
    have hne : ¬ nI n = -1 := fun e => by have := nI_pos' (n := n) (by omega); rw [e] at this; exact absurd this (by decide)
    cases rstB (wX S 87) i j (nI x) with
    | false => rfl
    | true => rw [if_neg b2i_t, if_pos rfl, if_neg hne, nI_1]
theorem M_two {S : MS} {x y : Int32} (hM : MR S) : fX11_areTwo 0 x y S = some (b2i (decide (0 ≤ x ∧ x < sc (tM S) 4) && decide (0 ≤ y ∧ y < sc (tM S) 4) && !decide (x = y))) := by
  unfold fX11_areTwo
  rw [M_isMan hM, M_isMan hM]
  cases decide (0 ≤ x ∧ x < sc (tM S) 4) with
  | false => rfl
  | true =>
    rw [Option.bind_some, if_neg b2i_t]
    cases decide (0 ≤ y ∧ y < sc (tM S) 4) with
    | false => rfl
    | true =>
      rw [Option.bind_some, if_neg b2i_t]
      by_cases c : x = y <;> simp [c, b2i]
theorem sim_20 : Sim_20 Inv := by
  intro SX SM z0 z1 h
  refine sim_ro h ?_
  obtain ⟨t, T, h⟩ := h
  have hw := h.th.2.1.1
  obtain ⟨hX, hM, ex, em, hW, h57, hE⟩ := h.th.1
  have hC := hW.1
  have hn := nq_le hC
  have hC' : WC (tX SX t) := by rw [ex]; exact hC
  unfold fX10_rests fX11_rests
  rw [X_isMan hX hC', X_isMan hX hC', M_two hM.1, ex, em]
  by_cases hz : 0 ≤ z0 ∧ z0 < sc T 4
  · by_cases hy : 0 ≤ z1 ∧ z1 < sc T 4
    · rw [decide_eq_true hz, decide_eq_true hy]
      obtain ⟨i, hi, -, rfl⟩ := idx_of hC (by decide) hz
      obtain ⟨j, hj, -, rfl⟩ := idx_of hC (by decide) hy
      rw [Option.bind_some, if_neg b2i_t, Option.bind_some, if_neg b2i_t, Option.bind_some]
      by_cases c : nI i = nI j
      · rw [if_pos c, decide_eq_true c]; exact ⟨_, rfl, rfl⟩
      · rw [if_neg c, decide_eq_false c, if_neg (show ¬ b2i (true && true && !false) = 0 by decide)]
        unfold fX11_restOf
        have a : fX10_rests_28 1000 0 (nI i) (nI j) (0 : Int32) (0 : Int32) SX = _ := X_rsts_go hX.1 (show i < 4 by omega) (show j < 4 by omega) 4 0 1000 0 rfl (by decide) (Nat.le_refl _)
        have b : fX11_restOf_6 1000 0 (nI i) (nI j) (-1) (0 : Int32) (0 : Int32) (th0 SM) = _ := M_rst_go hM.1 (show i < 4 by omega) (show j < 4 by omega) 4 0 1000 (nI 0) rfl (by decide)
        rw [a, b, hw]
        exact ⟨_, rfl, rfl⟩
    · rw [decide_eq_true hz, decide_eq_false hy]; exact ⟨_, rfl, rfl⟩
  · rw [decide_eq_false hz]; exact ⟨_, rfl, rfl⟩
theorem sim_21 : Sim_21 Inv := by
  intro SX SM z0 z1 z2 h
  refine sim_ro h ?_
  obtain ⟨t, T, h⟩ := h
  have hw := h.th.2.1.1
  obtain ⟨hX, hM, ex, em, hW, h57, hE⟩ := h.th.1
  have hC := hW.1
  have hn := nq_le hC
  have hC' : WC (tX SX t) := by rw [ex]; exact hC
  unfold fX10_rest fX11_rest
  rw [X_isMan hX hC', X_isMan hX hC', M_two hM.1, ex, em]
  by_cases hz : 0 ≤ z0 ∧ z0 < sc T 4
  · by_cases hy : 0 ≤ z1 ∧ z1 < sc T 4
    · rw [decide_eq_true hz, decide_eq_true hy]
      obtain ⟨i, hi, -, rfl⟩ := idx_of hC (by decide) hz
      obtain ⟨j, hj, -, rfl⟩ := idx_of hC (by decide) hy
      rw [Option.bind_some, if_neg b2i_t, Option.bind_some, if_neg b2i_t, Option.bind_some]
      by_cases c : nI i = nI j
      · rw [if_pos c, decide_eq_true c]; exact ⟨_, rfl, rfl⟩
      · rw [if_neg c, decide_eq_false c, if_neg (show ¬ b2i (true && true && !false) = 0 by decide)]
        by_cases k0 : 0 ≤ z2
        · rw [if_pos k0, if_neg (Int32.not_lt.mpr k0)]
          unfold fX11_restOf
          have a : fX10_rest_33 1000 0 (nI i) (nI j) z2 (0 : Int32) (0 : Int32) SX = _ := X_rst_go hX.1 (show i < 4 by omega) (show j < 4 by omega) k0 4 0 1000 (nI 0) rfl (by decide)
          have b : fX11_restOf_6 1000 0 (nI i) (nI j) z2 (0 : Int32) (0 : Int32) (th0 SM) = _ := M_rst_go hM.1 (show i < 4 by omega) (show j < 4 by omega) 4 0 1000 (nI 0) rfl (by decide)
          rw [a, b, hw]
          exact ⟨_, rfl, rfl⟩
        · rw [if_neg k0, if_pos (Int32.not_le.mp k0)]; exact ⟨_, rfl, rfl⟩
    · rw [decide_eq_true hz, decide_eq_false hy]; exact ⟨_, rfl, rfl⟩
  · rw [decide_eq_false hz]; exact ⟨_, rfl, rfl⟩
/-! odds -/
theorem cd_S {x0 x1 : Int32} {S : MS} : ∀ (f : Nat) (x2 : Int32), fX10_commonDivisor_2 f x0 x1 x2 S = fX10_commonDivisor_2 f x0 x1 x2 S00
  | 0, _ => rfl
  | f + 1, x2 => by
    unfold fX10_commonDivisor_2 fX10_commonDivisor_21
    rw [cd_S f]
theorem cl_S {x1 : Int32} {x4 : Int64} {S : MS} : ∀ (f : Nat) (x6 : Int64) (x8 : Int32), fX10_clear_69 f x1 x4 x6 x8 S = fX10_clear_69 f x1 x4 x6 x8 S00
  | 0, _, _ => rfl
  | f + 1, x6, x8 => by
    unfold fX10_clear_69
    rw [cl_S f]
theorem cm_S {S : MS} : ∀ (f : Nat) (x4 x6 : Int64), fX11_common_6 f x4 x6 S = fX11_common_6 f x4 x6 S00
  | 0, _, _ => rfl
  | f + 1, x4, x6 => by
    unfold fX11_common_6
    rw [cm_S f]
def clX (c n w : Int32) : Option Int64 := (fX10_commonDivisor 100 (100 - c) S00).bind fun q8 => if w = 0 then fX10_clear_58 n q8 (100 - c) S00 else fX10_clear_58 n q8 100 S00
def clM (c : Int32) : Nat → Int32 → Int32 → Int64 → Int64 → Int32 → Option Int64
  | 0, _, _, _, _, _ => none
  | f + 1, x1, x2, x3, x5, x7 => if x1 ≤ x7 then (fX11_common x3 x5 S00).bind fun q2 => if x2 = 0 then (if q2 = 0 then none else some (x3 / q2)) else (if q2 = 0 then none else some (x5 / q2)) else clM c f x1 x2 (x3 * (100 - c.toInt64)) (x5 * 100) (x7 + 1)
theorem M_cl {S : MS} {c x1 x2 : Int32} (hM : MR S) (hc : gI S 2 10 = c) : ∀ (f : Nat) (x3 x5 : Int64) (x7 : Int32), fX11_clear_36 f 0 x1 x2 x3 x5 x7 S = (clM c f x1 x2 x3 x5 x7).map (fun v => (v, S))
  | 0, _, _, _ => rfl
  | f + 1, x3, x5, x7 => by
    unfold fX11_clear_36 clM fX11_common
    rw [mr_3 hM, lm_2, show bnd (10 : Int32) 26 = true from rfl, if_pos rfl, show (10 : Int32).toNatClampNeg = 10 from rfl, hc, M_cl hM hc f, cm_S]
    split
    · cases fX11_common_6 1000 x3 x5 S00 with
      | none => rfl
      | some q => simp only [Option.bind_some]; split <;> split <;> rfl
    · rfl
set_option maxRecDepth 100000 in
theorem clear_dec : ∀ k, k < 101 → ∀ n, n < 7 → ∀ w, w < 2 → (clX (nI k) (nI n) (nI w)).isSome = true ∧ clX (nI k) (nI n) (nI w) = clM (nI k) 1000 (nI n) (nI w) 1 1 0 := by decide +kernel
theorem sim_22 : Sim_22 Inv := by
  intro SX SM z0 z1 h
  obtain ⟨t, T, h⟩ := h
  obtain ⟨hX, hM, ex, em, hW, h57, hE⟩ := h.th.1
  have hiv : Inv SX (th0 SM) := ⟨t, T, h.th⟩
  have e13 : gI SX t 13 = sc T 13 := by rw [← ex]; rfl
  have m13 : gI (th0 SM) 2 10 = sc T 13 := by rw [← em]; rfl
  unfold fX10_clear fX11_clear
  rw [rx_told hX.1, e13]
  by_cases c1 : z0 < 0
  · rw [if_pos c1, if_pos c1]; exact ⟨_, _, rfl, rfl, rfl, hiv⟩
  · rw [if_neg c1, if_neg c1]
    by_cases c2 : 6 < z0
    · rw [if_pos c2, if_pos c2]; exact ⟨_, _, rfl, rfl, rfl, hiv⟩
    · rw [if_neg c2, if_neg c2]
      by_cases c3 : z1 < 0
      · rw [if_pos c3, if_pos c3]; exact ⟨_, _, rfl, rfl, rfl, hiv⟩
      · rw [if_neg c3, if_neg c3]
        by_cases c4 : z1 ≤ 1
        · rw [if_pos c4, if_pos c4]
          obtain ⟨n, hn, rfl⟩ := nI_of c1
          obtain ⟨w, hw, rfl⟩ := nI_of c3
          obtain ⟨k, hk, ek⟩ := nI_of (Int32.not_lt.mpr hE.1)
          have hk' : k ≤ 100 := by have := hE.2.1; rw [ek, show (100 : Int32) = nI 100 from rfl, nI_leI hk (by decide)] at this; exact this
          have hn' : n ≤ 6 := by have := Int32.not_lt.mp c2; rw [show (6 : Int32) = nI 6 from rfl, nI_leI hn (by decide)] at this; exact this
          have hw' : w ≤ 1 := by rw [show (1 : Int32) = nI 1 from rfl, nI_leI hw (by decide)] at c4; exact c4
          obtain ⟨d1, d2⟩ := clear_dec k (by omega) n (by omega) w (by omega)
          rw [M_cl hM.1 m13, ek, ← d2]
          have ed : ((fX10_commonDivisor 100 (100 - nI k) SX).bind fun q8 => if nI w = 0 then fX10_clear_58 (nI n) q8 (100 - nI k) SX else fX10_clear_58 (nI n) q8 100 SX) = clX (nI k) (nI n) (nI w) := by
            unfold clX fX10_commonDivisor
            rw [cd_S]
            generalize fX10_commonDivisor_2 1000 100 (100 - nI k) 100 S00 = g
            cases g with
            | none => rw [Option.bind_none, Option.bind_none]
            | some q8 =>
              rw [Option.bind_some, Option.bind_some]
              unfold fX10_clear_58
              rw [cl_S (S := SX), cl_S (S := SX)]
          rw [ed]
          cases hv : clX (nI k) (nI n) (nI w) with
          | none => rw [hv] at d1; cases d1
          | some v => exact ⟨v, (v, th0 SM), rfl, rfl, rfl, hiv⟩
        · rw [if_neg c4, if_neg c4]; exact ⟨_, _, rfl, rfl, rfl, hiv⟩
