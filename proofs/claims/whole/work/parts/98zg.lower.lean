/-! ===== what is told hangs on the lower halves alone ===== -/
def hf (o : Nat) : Nat := [0, 0, 13, 8, 6, 6, 6, 4, 4, 4, 4, 12, 12, 8, 8, 8, 8, 8, 4, 4, 4, 3, 3, 64, 64].getD o 0
theorem mNk_lt : ∀ k, k < 16 → mNk k < 13 := by decide
theorem hf_tb : ∀ q, q < 5 → ∀ c, c < 5 → c < wid q → hf (mB q + c) = mxq q ∧ 2 ≤ mB q + c ∧ mB q + c < 25 := by decide
theorem sunGo_congr {hr hr' : Nat → Int32} {h : Int32} {N : Nat} (e : ∀ j, j < N → hr j = hr' j) : ∀ (n i : Nat) (best last : Int32), i + n ≤ N → N ≤ 24 → best.toNatClampNeg < N → last.toNatClampNeg < N → sunGo hr h n i best last = sunGo hr' h n i best last := by
  intro n
  induction n with
  | zero => intro i best last _ _ _ _; rfl
  | succ n ih =>
    intro i best last hi hN hb hl
    have ei := e i (by omega)
    have eb := e _ hb
    have el := e _ hl
    have ci : (nI i).toNatClampNeg = i := nI_clamp (by omega)
    show sunGo hr h n (i + 1) (if hr i ≤ h ∧ (best = -1 ∨ hr best.toNatClampNeg < hr i) then nI i else best) (if last = -1 ∨ hr last.toNatClampNeg < hr i then nI i else last) = sunGo hr' h n (i + 1) (if hr' i ≤ h ∧ (best = -1 ∨ hr' best.toNatClampNeg < hr' i) then nI i else best) (if last = -1 ∨ hr' last.toNatClampNeg < hr' i then nI i else last)
    rw [ei, eb, el]
    refine ih (i + 1) _ _ (by omega) hN ?_ ?_
    · split
      · rw [ci]; omega
      · exact hb
    · split
      · rw [ci]; omega
      · exact hl
theorem tM_lo {S S1 : MS} (e : ∀ o j, 2 ≤ o → o < 25 → j < hf o → gI S1 o j = gI S o j) (hC : WC (tM S)) (hK : WKM S) (hW : WWM S) : tM S1 = tM S := by
  have cq : ∀ q, q < 5 → (gI S 2 (5 + q)).toNatClampNeg ≤ mxq q := fun q hq => by
    have h1 := hC q hq
    have h2 : sc (tM S) q = gI S 2 (5 + q) := by
      show scM S q = _
      unfold scM
      rw [if_pos hq, (by decide : ∀ q, q < 5 → mNk q = 5 + q) q hq]
    rw [h2] at h1
    exact clamp_le h1.1 h1.2 (by have := (mBq q hq).2.2.2.2; omega)
  unfold tM
  refine Prod.ext ?_ (Prod.ext ?_ (Prod.ext ?_ (Prod.ext ?_ ?_)))
  · funext k; show scM S1 k = scM S k
    by_cases hk : k < 16
    · have ek : gI S1 2 (mNk k) = gI S 2 (mNk k) := e 2 _ (by decide) (by decide) (mNk_lt k hk)
      unfold scM; rw [ek]
    · unfold scM
      rw [if_neg (by omega), if_neg (by omega), if_neg (by omega), if_neg (by omega), if_neg (by omega), if_neg (by omega), if_neg (by omega), if_neg (by omega)]
  · funext q i c; show tbM S1 q i c = tbM S q i c
    unfold tbM
    by_cases hq : q < 5
    · rw [e 2 (5 + q) (by decide) (by decide) (show 5 + q < 13 by omega)]
      by_cases hc : c < wid q ∧ i < (gI S 2 (5 + q)).toNatClampNeg
      · have h5 := (mBq q hq).2.2.2.1
        obtain ⟨t1, t2, t3⟩ := hf_tb q hq c (by omega) hc.1
        have := cq q hq
        rw [e _ i t2 t3 (by omega)]
      · rw [if_neg (fun h => hc h.2), if_neg (fun h => hc h.2)]
    · rw [if_neg (fun h => hq h.1), if_neg (fun h => hq h.1)]
  · funext c; show wlM S1 c = wlM S c
    have w8 : (gI S 2 4).toNatClampNeg ≤ 8 := clamp_le hW.1 hW.2 (by decide)
    unfold wlM
    rw [e 2 4 (by decide) (by decide) (show 4 < 13 by decide), decide_eq_decide]
    constructor
    · rintro ⟨h1, k, k1, k2⟩; exact ⟨h1, k, k1, by rw [e 3 k (by decide) (by decide) (show k < 8 by omega)] at k2; exact k2⟩
    · rintro ⟨h1, k, k1, k2⟩; exact ⟨h1, k, k1, by rw [e 3 k (by decide) (by decide) (show k < 8 by omega)]; exact k2⟩
  · funext h; show snM S1 h = snM S h
    unfold snM
    by_cases hh : h < 24
    · rw [if_pos hh, if_pos hh, e 2 5 (by decide) (by decide) (show 5 < 13 by decide)]
      have c6 : (gI S 2 5).toNatClampNeg ≤ 6 := cq 0 (by decide)
      exact sunGo_congr (N := 6) (fun j hj => e 4 j (by decide) (by decide) hj) _ _ _ _ (by omega) (by decide) (by decide) (by decide)
    · rw [if_neg hh, if_neg hh]
  · funext k; show lwM S1 k = lwM S k
    unfold lwM
    by_cases hk : k < 3
    · obtain ⟨k1, k2, k3, _⟩ := hK k hk
      have k64 : (gI S 22 k).toNatClampNeg ≤ 64 := clamp_le (Int32.le_trans k1 k2) k3 (by decide)
      rw [if_pos hk, if_pos hk, e 21 k (by decide) (by decide) hk, e 22 k (by decide) (by decide) hk]
      exact map_rc (fun i hi => by rw [e 23 _ (by decide) (by decide) (show _ < 64 by omega), e 24 _ (by decide) (by decide) (show _ < 64 by omega)])
    · rw [if_neg hk, if_neg hk]
theorem MO.lo {S S1 : MS} (h : MO S) (hr : S1.2.1 = S.2.1) (e : ∀ o j, 2 ≤ o → o < 25 → j < hf o → gI S1 o j = gI S o j) : MO S1 := by
  obtain ⟨h1, h2, h3⟩ := h
  refine ⟨h1.of hr, fun k hk => ?_, ?_⟩
  · obtain ⟨k1, k2, k3, k4⟩ := h2 k hk
    have k64 : (gI S 22 k).toNatClampNeg ≤ 64 := clamp_le (Int32.le_trans k1 k2) k3 (by decide)
    rw [e 21 k (by decide) (by decide) hk, e 22 k (by decide) (by decide) hk]
    refine ⟨k1, k2, k3, fun i hi => ?_⟩
    rw [e 23 i (by decide) (by decide) (show i < 64 by omega), e 24 i (by decide) (by decide) (show i < 64 by omega)]
    exact k4 i hi
  · unfold WWM
    rw [e 2 4 (by decide) (by decide) (show 4 < 13 by decide)]
    exact h3
theorem QFM_hi {o j : Nat} (h : QFM o j) (h2 : 2 ≤ o) (h25 : o < 25) : hf o ≤ j := by
  rcases h with h | ⟨rfl, h⟩ | ⟨rfl, h⟩ | ⟨h, h', q⟩ | ⟨h, h', q⟩ | ⟨h, h', q⟩ | ⟨h, h', q⟩ | ⟨h, h', q⟩ | ⟨rfl | rfl, q⟩ | ⟨rfl | rfl, q⟩
  · omega
  · exact h
  · exact h
  · have : hf o = 6 := (by decide : ∀ o, o < 25 → 4 ≤ o → o ≤ 6 → hf o = 6) o h25 h h'
    omega
  · have : hf o = 4 := (by decide : ∀ o, o < 25 → 7 ≤ o → o ≤ 10 → hf o = 4) o h25 h h'
    omega
  · have : hf o = 12 := (by decide : ∀ o, o < 25 → 11 ≤ o → o ≤ 12 → hf o = 12) o h25 h h'
    omega
  · have : hf o = 8 := (by decide : ∀ o, o < 25 → 13 ≤ o → o ≤ 17 → hf o = 8) o h25 h h'
    omega
  · have : hf o = 4 := (by decide : ∀ o, o < 25 → 18 ≤ o → o ≤ 20 → hf o = 4) o h25 h h'
    omega
  · exact q
  · exact q
  · exact q
  · exact q
