/-! ===== the fewest lamps ===== -/
def lmGo (f : Nat → Bool) : Nat → Nat → Int32 → Int32
  | 0, _, b => b
  | d + 1, x, b => lmGo f d (x + 1) (if (b < 0 ∨ bitsI (nI x) < bitsI b) ∧ f x = true then nI x else b)
def lmF (T : TT) (W : Nat → Int32) (at_ row col : Int32) (x : Nat) : Bool := onB T (up W 7 (nI x)) (-1) at_ row col
set_option maxRecDepth 100000 in
theorem bits5 : ∀ x, x < 16 → bitsI (nI x) < 5 := by decide +kernel
set_option maxRecDepth 100000 in
theorem pow_dec : ∀ n, n < 5 → ((1 : Int32) <<< (nI n &&& 31)) = nI (2 ^ n) := by decide +kernel
theorem up_up {w : Nat → Int32} {k : Nat} {a b : Int32} : up (up w k a) k b = up w k b := by
  funext j; unfold up; split <;> rfl
theorem X_lm_go {t N : Nat} {T : TT} {W : Nat → Int32} {row col : Int32} {S0 : MS} (hW : WT T) (hWk : WOK T W) (hN : N ≤ 16) : ∀ (d x fuel : Nat) (b l : Int32) (S : MS), N = x + d → d < fuel → XO t S → tX S t = T → (∃ y, wX S 95 = up W 7 y) → Fr (PX 95) S0 S → ((b < 0 ∧ l = 5) ∨ (¬ b < 0 ∧ l = bitsI b)) →
    ∃ S1, fX10_lampsFor_48 fuel 0 row col b l (nI N) (nI x) S = some (lmGo (lmF T W (hr24 (W 3)) row col) d x b, S1) ∧ Fr (PX 95) S0 S1 := by
  intro d
  induction d with
  | zero =>
    intro x fuel b l S e1 e2 hX et hl hf hb
    obtain ⟨f, rfl⟩ : ∃ f, fuel = f + 1 := ⟨fuel - 1, by omega⟩
    refine ⟨S, ?_, hf⟩
    unfold fX10_lampsFor_48
    rw [e1, Nat.add_zero, if_pos (Int32.le_refl _)]; rfl
  | succ d ih =>
    intro x fuel b l S e1 e2 hX et hl hf hb
    obtain ⟨f, rfl⟩ : ∃ f, fuel = f + 1 := ⟨fuel - 1, by omega⟩
    obtain ⟨y, hy⟩ := hl
    have hi : ¬ nI N ≤ nI x := nle (by omega) (by omega)
    have b5 := bits5 x (by omega)
    have f1 : Fr (PX 95) S (pI S 95 7 (nI x)) := Fr.rf.pI (Or.inr ⟨by decide, by decide⟩)
    have ew : wX (pI S 95 7 (nI x)) 95 = up W 7 (nI x) := by rw [wX_own (by decide) (by decide), hy, up_up]
    have hX1 := hX.fr W95 f1
    have et1 : tX (pI S 95 7 (nI x)) t = T := (hX.told W95 f1).trans et
    have hk1 : WOK T (wX (pI S 95 7 (nI x)) 95) := by rw [ew]; exact WOK_7 hWk (nI_pos' (by omega)) (nI_lt (b := 16) (by omega) (by decide))
    have bc : ∀ S', fJ6_bitCount_0f7a4 (nI x) S' = some (bitsI (nI x)) := fun S' => X_bits (nI_pos' (by omega)) (nI_lt (b := 256) (by omega) (by decide))
    have hcond : (l ≤ bitsI (nI x)) ↔ ¬ (b < 0 ∨ bitsI (nI x) < bitsI b) := by
      rcases hb with ⟨h1, h2⟩ | ⟨h1, h2⟩
      · rw [h2]
        constructor
        · intro hh; exact absurd b5 (Int32.not_lt.mpr hh)
        · intro hh; exact absurd (Or.inl h1) hh
      · rw [h2]
        constructor
        · rintro hh (h3 | h3)
          · exact h1 h3
          · exact absurd h3 (Int32.not_lt.mpr hh)
        · intro hh; exact Int32.not_lt.mp (fun h3 => hh (Or.inr h3))
    show ∃ S1, _ = some (lmGo _ d (x + 1) (if (b < 0 ∨ bitsI (nI x) < bitsI b) ∧ lmF T W (hr24 (W 3)) row col x = true then nI x else b), S1) ∧ _
    unfold fX10_lampsFor_48 fX10_lampsFor_95
    rw [if_neg hi, rx_0_11 hX.1, bc, Option.bind_some, nI_1]
    by_cases c : l ≤ bitsI (nI x)
    · rw [if_pos c, if_neg (fun hh => hcond.mp c hh.1)]
      exact ih (x + 1) f b l _ (by omega) (by omega) hX1 et1 ⟨_, ew⟩ (hf.tr f1) hb
    · have c' : b < 0 ∨ bitsI (nI x) < bitsI b := Classical.not_not.mp (fun hh => c (hcond.mpr hh))
      obtain ⟨S2, a1, a2, a3⟩ := X_on (r := row) (c := col) hX1 et1 hW hk1 HW165
      have e3 : wX (pI S 95 7 (nI x)) 95 3 = W 3 := by rw [ew, up_ne (by decide)]
      have es : sunS T false 5 (hr24 (W 3)) = -1 := if_pos (Or.inr rfl)
      rw [e3, es, ew] at a1
      have a1' : fX10_fallsOn 0 row col 16 (pI S 95 7 (nI x)) = some (b2i (lmF T W (hr24 (W 3)) row col x), S2) := a1
      rw [if_neg c, a1', Option.bind_some]
      have hX2 := hX1.fr W95 a3
      have et2 : tX S2 t = T := (hX1.told W95 a3).trans et1
      cases hf2 : lmF T W (hr24 (W 3)) row col x with
      | false =>
        rw [if_pos b2i_f, if_neg (fun hh => absurd hh.2 (by decide))]
        exact ih (x + 1) f b l S2 (by omega) (by omega) hX2 et2 ⟨_, a2.trans ew⟩ ((hf.tr f1).tr a3) hb
      | true =>
        rw [if_neg b2i_t, bc, Option.bind_some, if_pos ⟨c', rfl⟩]
        exact ih (x + 1) f (nI x) (bitsI (nI x)) S2 (by omega) (by omega) hX2 et2 ⟨_, a2.trans ew⟩ ((hf.tr f1).tr a3) (Or.inr ⟨nI_pos (by omega), rfl⟩)
theorem M_lm_go {N : Nat} {T : TT} {W : Nat → Int32} {row col : Int32} {S0 : MS} (hW : WT T) (hWk : WOK T W) (hN : N ≤ 16) (hNe : ((1 : Int32) <<< (sc T 1 &&& 31)) = nI N) : ∀ (d x fuel : Nat) (b : Int32) (S : MS), N = x + d → d < fuel → MO S → tM S = T → gI S 0 57 = 0 → wM S 0 = W → (∃ y, wM S 1 = up W 7 y) → Fr (PM 1) S0 S →
    ∃ S1, fX11_lampsFor_28 fuel 0 row col b (nI x) S = some (lmGo (lmF T W (hr24 (W 3)) row col) d x b, S1) ∧ Fr (PM 1) S0 S1 := by
  intro d
  induction d with
  | zero =>
    intro x fuel b S e1 e2 hX et ht h0 hl hf
    obtain ⟨f, rfl⟩ : ∃ f, fuel = f + 1 := ⟨fuel - 1, by omega⟩
    refine ⟨S, ?_, hf⟩
    have e6 : gI S 2 6 = sc T 1 := by rw [← et]; rfl
    unfold fX11_lampsFor_28
    rw [mr_3 hX.1, lm_2, show bnd (6 : Int32) 26 = true from rfl, if_pos rfl, show (6 : Int32).toNatClampNeg = 6 from rfl, e6, hNe, e1, Nat.add_zero, if_pos (Int32.le_refl _)]; rfl
  | succ d ih =>
    intro x fuel b S e1 e2 hX et ht h0 hl hf
    obtain ⟨f, rfl⟩ : ∃ f, fuel = f + 1 := ⟨fuel - 1, by omega⟩
    obtain ⟨y, hy⟩ := hl
    have hi : ¬ nI N ≤ nI x := nle (by omega) (by omega)
    have e6 : gI S 2 6 = sc T 1 := by rw [← et]; rfl
    have e27 : gI (pI S 34 1 (nI x)) 27 0 = W 3 := by rw [gI_neo (by decide), ← h0]; rfl
    have f1 : Fr (PM 1) S (pI S 34 1 (nI x)) := Fr.rf.pI (PM_w (by decide) (by decide))
    have ew : wM (pI S 34 1 (nI x)) 1 = up W 7 (nI x) := by rw [show (34 : Nat) = mWc 7 from rfl, wM_own (by decide) (by decide), hy, up_up]
    have hX1 := hX.fr f1
    have et1 : tM (pI S 34 1 (nI x)) = T := (MO.told f1).trans et
    have ht1 : gI (pI S 34 1 (nI x)) 0 57 = 0 := by rw [gI_neo (by decide)]; exact ht
    have hr := hr24_rng hWk.2.2.1
    obtain ⟨S2, a1, a2, a3⟩ := M_on1 (at_ := hr24 (W 3)) (dark := true) (r := row) (c := col) hX1 et1 hW (by rw [ew]; exact WP_up hWk.1 (by decide) (by decide)) ht1 hr.1 hr.2
    have es : sunS T true 0 (hr24 (W 3)) = -1 := if_pos (Or.inl rfl)
    rw [es, ew] at a2
    have a2' : fX11_isItAt 0 row col S2 = some (b2i (lmF T W (hr24 (W 3)) row col x)) := a2
    have a1' : fX11_falls 0 (1 : Int32) (W 3 - W 3 / 24 * 24) (1 : Int32) (pI S 34 1 (nI x)) = some S2 := a1
    have f2 : Fr (PM 1) S S2 := f1.tr (a3.mo PFM_M)
    have h02 : wM S2 0 = W := by rw [Fr.wldM f2 (by decide)]; exact h0
    have hl2 : ∃ y, wM S2 1 = up W 7 y := ⟨nI x, (wM_fr a3 PFM_w).trans ew⟩
    have ht2 : gI S2 0 57 = 0 := by rw [a3.2 _ _ (fun hp => by unfold PFM at hp; omega)]; exact ht1
    have try_ : ∃ S1, fX11_lampsFor_61 (fX11_lampsFor_28 f) 0 row col b (nI x) S = some (lmGo (lmF T W (hr24 (W 3)) row col) d (x + 1) (if lmF T W (hr24 (W 3)) row col x = true then nI x else b), S1) ∧ Fr (PM 1) S0 S1 := by
      unfold fX11_lampsFor_61 fX11_lampsFor_96
      rw [gR_pI, mr_50 hX.1, mr_43 hX.1, lm_34, lm_27, show bnd (1 : Int32) 23 = true from rfl, if_pos rfl, show bnd (0 : Int32) 23 = true from rfl, if_pos rfl, show (1 : Int32).toNatClampNeg = 1 from rfl, show (0 : Int32).toNatClampNeg = 0 from rfl, e27, a1', Option.bind_some, a2', Option.bind_some, nI_1]
      cases lmF T W (hr24 (W 3)) row col x with
      | false => exact ih (x + 1) f b S2 (by omega) (by omega) (hX.fr f2) ((MO.told f2).trans et) ht2 h02 hl2 (hf.tr f2)
      | true => exact ih (x + 1) f (nI x) S2 (by omega) (by omega) (hX.fr f2) ((MO.told f2).trans et) ht2 h02 hl2 (hf.tr f2)
    show ∃ S1, _ = some (lmGo _ d (x + 1) (if (b < 0 ∨ bitsI (nI x) < bitsI b) ∧ lmF T W (hr24 (W 3)) row col x = true then nI x else b), S1) ∧ _
    unfold fX11_lampsFor_28
    rw [mr_3 hX.1, lm_2, show bnd (6 : Int32) 26 = true from rfl, if_pos rfl, show (6 : Int32).toNatClampNeg = 6 from rfl, e6, hNe, if_neg hi, M_bits, M_bits, Option.bind_some, Option.bind_some]
    by_cases c0 : b < 0
    · rw [if_pos c0]
      simp only [c0, true_or, true_and]
      exact try_
    · rw [if_neg c0]
      by_cases c1 : bitsI (nI x) < bitsI b
      · rw [if_pos c1]
        simp only [c1, or_true, true_and]
        exact try_
      · rw [if_neg c1, if_neg (fun hh => hh.1.elim c0 c1)]
        unfold fX11_lampsFor_96
        rw [nI_1]
        exact ih (x + 1) f b S (by omega) (by omega) hX et ht h0 ⟨y, hy⟩ hf
theorem sim_18 : Sim_18 Inv := by
  intro SX SM z0 z1 ⟨t, T, h⟩
  have hv := h.th
  have hiv : Inv SX (th0 SM) := ⟨t, T, hv⟩
  obtain ⟨hX, hM, ex, em, hW, h57, hE⟩ := hv.1
  have hk := hv.2.1.2.1
  have hn := nq_le hW.1
  unfold fX10_lampsFor fX11_lampsFor
  rw [rx_told hX.1, X_isCell, M_isCell hM.1, ex, em]
  cases hc : cellB T z0 z1 with
  | false => exact ⟨_, _, rfl, rfl, rfl, hiv⟩
  | true =>
    obtain ⟨S1, M1, q1, r1, hv1, w1, w2, w3, w4, -, -⟩ := run_start hv
    obtain ⟨hX1, hM1, ex1, em1, -, h571, -⟩ := hv1.1
    have hNe : ((1 : Int32) <<< (sc T 1 &&& 31)) = nI (2 ^ nq T 1) := by rw [← nq_I hW.1 (show 1 < 5 by decide)]; exact pow_dec _ (by omega)
    have hN : 2 ^ nq T 1 ≤ 16 := Nat.pow_le_pow_right (n := 2) (by decide) hn.2.1
    have s1 : gI S1 (t + 5) 3 = sc T 1 := by rw [← ex1]; rfl
    have own : wM (th0 SM) 0 = up (wM (th0 SM) 0) 7 (wM (th0 SM) 0 7) := by funext k; unfold up; split <;> simp_all
    obtain ⟨S2, a1, a2⟩ := X_lm_go (W := wM (th0 SM) 0) (row := z0) (col := z1) (S0 := S1) hW hk hN (2 ^ nq T 1) 0 1000 (-2) 5 S1 (Nat.zero_add _).symm (by omega) hX1 ex1 ⟨_, w1.trans own⟩ Fr.rf (Or.inl ⟨by decide, rfl⟩)
    obtain ⟨M2, b1, b2⟩ := M_lm_go (W := wM (th0 SM) 0) (row := z0) (col := z1) (S0 := M1) hW hk hN hNe (2 ^ nq T 1) 0 1000 (-2) M1 (Nat.zero_add _).symm (by omega) hM1 em1 h571 w4 ⟨_, w2.trans own⟩ Fr.rf
    have a1' : fX10_lampsFor_48 1000 0 z0 z1 (-2) 5 (nI (2 ^ nq T 1)) (0 : Int32) S1 = _ := a1
    have b1' : fX11_lampsFor_28 1000 0 z0 z1 (-2) (0 : Int32) M1 = _ := b1
    unfold fX7_size
    rw [Option.bind_some, if_neg b2i_t, Option.bind_some, if_neg b2i_t, rx_0_11 hX.1, rx_0_9 hX.1, q1, r1, Option.bind_some, Option.bind_some, rx_told hX1.1, rt_3 hX1.1 hX1.1.1, s1, Option.bind_some, hNe, a1', b1']
    exact ⟨_, _, rfl, rfl, rfl, t, T, hv1.run a2 b2⟩
