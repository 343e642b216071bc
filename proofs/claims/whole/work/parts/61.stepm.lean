/-! ===== a step, in the reference ===== -/
theorem PM_w {r k : Nat} (h1 : 27 ≤ k) (h2 : k < 36) : PM r k r := Or.inr (Or.inl ⟨h1, h2, rfl⟩)
theorem M_canStep {r : Nat} {S : MS} {way tw : Int32} (h : MO S) (hD : WD (tM S)) (hr : r < 23) (ht : gI S 0 57 = tw) : fX11_canStep 0 (nI r) way S = some (b2i (openB (tM S) tw (wM S r) way)) := by
  have e4 : gI S 30 r = wM S r 4 := rfl
  have e5 : gI S 31 r = wM S r 5 := rfl
  have e6 : gI S 32 r = wM S r 6 := rfl
  have hM := h.1
  unfold fX11_canStep fX11_canStep_53
  rw [mr_46 hM, mr_47 hM, mr_48 hM, lm_30, lm_31, lm_32, bnd_nI hr (by decide), if_pos rfl, M_dn, Option.bind_some, if_pos rfl, M_rt, Option.bind_some, if_pos rfl, nI_clamp (by omega), e4, e5, e6, ht, M_isCell hM, Option.bind_some]
  unfold openB
  simp only [i9]
  cases hc : cellB (tM S) (wM S r 4 + dnB way) (wM S r 5 + rtB way) with
  | false => simp [b2i]
  | true =>
    rw [M_isWall hM hD h.2.2 hc]
    generalize wallB (tM S) (wM S r 4 + dnB way) (wM S r 5 + rtB way) = wb
    rw [if_neg (by decide)]
    by_cases c3 : tw = 3
    · have c4 : ¬ tw = 4 := by rw [c3]; decide
      by_cases c6 : wM S r 6 < 9 <;> simp [b2i, c3, c4, c6]
    · by_cases c4 : tw = 4
      · cases wb <;> simp [b2i, c3, c4]
      · cases wb <;> by_cases c6 : wM S r 6 < 9 <;> simp [b2i, c3, c4, c6]
theorem M_stepsBy {r : Nat} {S : MS} {way tw : Int32} (h : MO S) (hH : WH (tM S)) (hr : r < 23) (ht : gI S 0 57 = tw) :
    ∃ S1, fX11_stepsBy 0 (nI r) way S = some S1 ∧ wM S1 r = stepW (tM S) tw way (wM S r) ∧ Fr (PM r) S S1 := by
  have hM := h.1
  have e3 : gI S 27 r = wM S r 3 := rfl
  obtain ⟨S1, q1, j1, q3⟩ := M_calls (far := 0) (met := 0) (trod := 0) (at_ := hr24 (wM S r 3)) hM hr
  have f1 : Fr (PM r) S S1 := j1.fr
  have h1 := h.fr f1
  have et : tM S1 = tM S := Fr.toldM f1 PM_told
  obtain ⟨S2, f2, q5⟩ := M_within (k := 2) (most := 9) (without := 1) (nm := nmW (wM S r) 0 0 0 (hr24 (wM S r 3))) h1.1 (by decide) h1.2.1 (by rw [et]; exact hH) q3
  have hM2 := h1.1.of f2.1
  unfold fX11_stepsBy fX11_stepsBy_52
  rw [mr_43 hM, lm_27, bnd_nI hr (by decide), if_pos rfl, nI_clamp (by omega), e3]
  rw [show (wM S r 3 - wM S r 3 / 24 * 24) = hr24 (wM S r 3) from rfl, q1, Option.bind_some, show (2 : Int32) = nI 2 from rfl, q5, Option.bind_some]
  rw [et]
  have g : ∀ k, 27 ≤ k → gI S2 k r = gI S k r := fun k hk => by rw [f2.2 _ _ (fun hh => by have := hh.1; omega), j1.gI]
  have g57 : gI S2 0 57 = tw := by rw [f2.2 _ _ (fun hh => by have := hh.2; omega), j1.gI]; exact ht
  simp only [gR_pI, mr_46 hM2, mr_47 hM2, mr_48 hM2, lm_30, lm_31, lm_32, bnd_nI hr (by decide), if_true, M_dn, M_rt, Option.bind_some, nI_clamp (show r < 2 ^ 31 by omega), gI_same]
  have e57 : gI (pI (pI S2 30 r (gI S2 30 r + dnB way)) 31 r (gI (pI S2 30 r (gI S2 30 r + dnB way)) 31 r + rtB way)) 0 57 = tw := by
    rw [gI_neo (by decide), gI_neo (by decide)]; exact g57
  have e6 : gI (pI (pI S2 30 r (gI S2 30 r + dnB way)) 31 r (gI (pI S2 30 r (gI S2 30 r + dnB way)) 31 r + rtB way)) 32 r = wM S r 6 := by
    rw [gI_neo (by decide), gI_neo (by decide), g _ (by decide)]; rfl
  have ew : wM (pI (pI S2 30 r (gI S2 30 r + dnB way)) 31 r (gI (pI S2 30 r (gI S2 30 r + dnB way)) 31 r + rtB way)) r = movW way (wM S r) := by
    rw [show (31 : Nat) = mWc 5 from rfl, wM_own (by decide) (by decide), show (30 : Nat) = mWc 4 from rfl, wM_own (by decide) (by decide), f2.wM, j1.wM]
    unfold movW
    rw [show mWc 4 = 30 from rfl, show mWc 5 = 31 from rfl, gI_neo (by decide), g _ (by decide), g _ (by decide)]
    rfl
  have fr : Fr (PM r) S (pI (pI S2 30 r (gI S2 30 r + dnB way)) 31 r (gI (pI S2 30 r (gI S2 30 r + dnB way)) 31 r + rtB way)) := (((f1.tr f2.fr).pI (PM_w (by decide) (by decide))).pI (PM_w (by decide) (by decide)))
  rw [e57, e6]
  unfold stepW
  by_cases c4 : tw = 4
  · rw [if_pos c4, if_pos c4]
    exact ⟨_, rfl, ew, fr⟩
  · rw [if_neg c4, if_neg c4]
    refine ⟨_, rfl, ?_, fr.pI (PM_w (by decide) (by decide))⟩
    rw [show (32 : Nat) = mWc 6 from rfl, wM_own (by decide) (by decide), ew]
    rfl
theorem M_tries {r : Nat} {S : MS} {way tw : Int32} (h : MO S) (hD : WD (tM S)) (hH : WH (tM S)) (hr : r < 23) (ht : gI S 0 57 = tw) :
    ∃ S1, fX11_triesStep 0 (nI r) way S = some S1 ∧ wM S1 r = attW (tM S) tw way (wM S r) ∧ Fr (PM r) S S1 := by
  unfold fX11_triesStep attW
  rw [M_canStep h hD hr ht, Option.bind_some]
  cases hop : openB (tM S) tw (wM S r) way with
  | false =>
    rw [if_pos (show b2i false = 0 from rfl), mr_45 h.1, lm_29, bnd_nI hr (by decide), if_pos rfl, if_pos rfl, nI_clamp (by omega)]
    refine ⟨_, rfl, ?_, Fr.rf.pI (PM_w (by decide) (by decide))⟩
    rw [show (29 : Nat) = mWc 9 from rfl, wM_own (by decide) (by decide)]; rfl
  | true =>
    rw [if_neg (by decide)]
    obtain ⟨S1, q1, q2, q3⟩ := M_stepsBy (way := way) h hH hr ht
    rw [q1]
    exact ⟨S1, rfl, by rw [q2]; rfl, q3⟩
