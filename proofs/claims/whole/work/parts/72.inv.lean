/-! ===== what class and reference share between two calls ===== -/
/-- odds are odds, worths are small -/
def WE (T : TT) : Prop := 0 ≤ sc T 13 ∧ sc T 13 ≤ 100 ∧ ∀ i, i < nq T 3 → 1 ≤ tb T 3 i 4 ∧ tb T 3 i 4 ≤ 99
def CR (t : Nat) (T : TT) (SX SM : MS) : Prop := XO t SX ∧ MO SM ∧ tX SX t = T ∧ tM SM = T ∧ WT T ∧ gI SM 0 57 = 0 ∧ WE T
def NW (T : TT) (SX SM : MS) : Prop := wX SX 87 = wM SM 0 ∧ WOK T (wM SM 0) ∧ wM SM 0 3 ≤ 9900
def IM (T : TT) (SX SM : MS) : Prop := ∃ b : Bool, gI SX 0 15 = b2i b ∧ gI SM 0 55 = b2i b ∧ (b = true → wX SX 91 = wM SM 2 ∧ WOK T (wM SM 2) ∧ wM SM 2 3 ≤ 9900)
/-- one note of the log -/
def LN (T : TT) (SX SM : MS) (k : Nat) : Prop := gI SX 82 (5 * k) = wM SM (3 + k) 4 ∧ gI SX 82 (5 * k + 1) = wM SM (3 + k) 5 ∧ gI SX 82 (5 * k + 2) = wM SM (3 + k) 6 ∧ gI SX 82 (5 * k + 3) = wM SM (3 + k) 7 ∧ gI SX 82 (5 * k + 4) = wM SM (3 + k) 8 ∧ (∀ f, ¬ (4 ≤ f ∧ f ≤ 8) → wM SM (3 + k) f = wM SM 0 f) ∧ WOK T (wM SM (3 + k))
def LG (T : TT) (SX SM : MS) : Prop := ∃ n, n ≤ 20 ∧ gI SX 81 1 = nI n ∧ gI SM 0 56 = nI n ∧ ∀ k, k < n → LN T SX SM k
/-- one that was seen, or that strikes one -/
def SN (SX SM : MS) (k : Nat) : Prop :=
  (gI SM 46 k = -1 ∧ gI SX 85 (k * 5 + 1) = gI SM 43 k ∧ (gI SM 43 k = 0 ∨ gI SM 43 k = 1) ∧ gI SX 85 (k * 5 + 4) = gI SM 45 k ∧ (gI SM 45 k = 0 ∨ gI SM 45 k = 1) ∧ (∃ h : Nat, 1 ≤ h ∧ h ≤ 40 ∧ gI SX 85 (k * 5 + 0) = nI h ∧ gI SM 42 k = nI h) ∧ (∃ r c : Nat, r < 8 ∧ c < 8 ∧ gI SX 85 (k * 5 + 2) = nI r ∧ gI SX 85 (k * 5 + 3) = nI c ∧ gI SM 44 k = nI (r * 8 + c)))
  ∨ (∃ j, j < k ∧ gI SM 46 k = nI j ∧ gI SX 85 (k * 5 + 1) = 2 ∧ gI SX 85 (k * 5 + 2) = nI j)
def SE (SX SM : MS) : Prop := ∃ n, n ≤ 24 ∧ gI SX 84 3 = nI n ∧ gI SM 0 66 = nI n ∧ gI SX 83 2 = gI SM 0 67 ∧ (gI SM 0 67 = -1 ∨ ∃ m, m ≤ n ∧ gI SM 0 67 = nI m) ∧ ∀ k, k < n → SN SX SM k
/-- a byte, signed and not -/
def BY (x m : Int32) : Prop := ∃ b : Nat, b < 256 ∧ m = nI b ∧ x = (if b < 128 then nI b else nI b - 256)
def TP (SX SM : MS) : Prop := ∃ n, n ≤ 700 ∧ gI SX 0 12 = nI n ∧ gI SM 0 2 = nI n ∧ ∀ k, k < n → BY (gI SX 1 k) (gI SM 1 k)
def FT (SX SM : MS) : Prop := gI SX 0 13 = gI SM 0 36 ∧ gI SX 0 14 = gI SM 0 37
def Iv (t : Nat) (T : TT) (SX SM : MS) : Prop := CR t T SX SM ∧ NW T SX SM ∧ IM T SX SM ∧ LG T SX SM ∧ SE SX SM ∧ TP SX SM ∧ FT SX SM
def Inv (SX SM : MS) : Prop := ∃ t T, Iv t T SX SM
/-! what may change so that each of these stays -/
def cX (o j : Nat) : Prop := o = 0 ∨ o = 1 ∨ (50 ≤ o ∧ (o = 84 → j = 3))
def cM (o j : Nat) : Prop := (o = 0 ∧ j ≠ 57) ∨ o = 1 ∨ 25 ≤ o
theorem MO.of {S S1 : MS} (h : MO S) (hr : S1.2.1 = S.2.1) (e : ∀ o j, 2 ≤ o → o < 25 → gI S1 o j = gI S o j) : MO S1 := by
  obtain ⟨h1, h2, h3⟩ := h
  refine ⟨h1.of hr, fun k hk => ?_, ?_⟩
  · rw [e 21 _ (by decide) (by decide), e 22 _ (by decide) (by decide)]
    obtain ⟨q1, q2, q3, q4⟩ := h2 k hk
    refine ⟨q1, q2, q3, fun i hi => ?_⟩
    rw [e 23 _ (by decide) (by decide), e 24 _ (by decide) (by decide)]
    exact q4 i hi
  · unfold WWM; rw [e 2 _ (by decide) (by decide)]; exact h3
theorem isT_r {t : Nat} (h : isT t) : 2 ≤ t ∧ t + 23 ≤ 48 := by rcases h with rfl | rfl <;> decide
theorem CR.fr {t : Nat} {T : TT} {SX SM SX1 SM1 : MS} (h : CR t T SX SM) (fx : Fr cX SX SX1) (fm : Fr cM SM SM1) : CR t T SX1 SM1 := by
  obtain ⟨⟨h1, h2, h3, h4, h5⟩, hM, ex, em, hW, h57, hE⟩ := h
  have ht := isT_r h1.1
  have hp : ∀ o j, t ≤ o → o < t + 23 → ¬ cX o j := fun o j a b hc => by unfold cX at hc; omega
  have hq : ∀ o j, 2 ≤ o → o < 25 → ¬ cM o j := fun o j a b hc => by unfold cM at hc; omega
  refine ⟨⟨h1.of fx.1, h2.fr fx (by unfold cX; decide), ?_, ?_, ?_⟩, hM.of fm.1 (fun o j a b => fm.2 _ _ (hq o j a b)), (Fr.told fx hp).trans ex, (Fr.toldM fm hq).trans em, hW, ?_, hE⟩
  · rw [fx.2 _ _ (hp _ _ (by omega) (by omega))]; exact h3
  · rw [fx.2 _ _ (hp _ _ (by omega) (by omega))]; exact h4
  · rw [fx.2 _ _ (hp _ _ (by omega) (by omega))]; exact h5
  · rw [fm.2 _ _ (fun hc => by unfold cM at hc; omega)]; exact h57
def iX (o j : Nat) : Prop := ¬ (o = 0 ∧ j = 15) ∧ ¬ (91 ≤ o ∧ o < 95)
def iM (o j : Nat) : Prop := ¬ (o = 0 ∧ j = 55) ∧ ¬ (27 ≤ o ∧ o < 36 ∧ j = 2) ∧ ¬ (36 ≤ o ∧ o < 39 ∧ 8 ≤ j ∧ j < 12)
theorem wM_same {S S1 : MS} {a : Nat} (h0 : ∀ k, 27 ≤ k → k < 36 → gI S1 k a = gI S k a) (h1 : ∀ o j, 36 ≤ o → o < 39 → 4 * a ≤ j → j < 4 * a + 4 → gI S1 o j = gI S o j) : wM S1 a = wM S a :=
  wM_ext h0 (fun j hj => ⟨h1 _ _ (by decide) (by decide) (by omega) (by omega), h1 _ _ (by decide) (by decide) (by omega) (by omega), h1 _ _ (by decide) (by decide) (by omega) (by omega)⟩)
theorem IM.fr {T : TT} {SX SM SX1 SM1 : MS} (h : IM T SX SM) (fx : Fr iX SX SX1) (fm : Fr iM SM SM1) : IM T SX1 SM1 := by
  obtain ⟨b, h1, h2, h3⟩ := h
  have e1 : wX SX1 91 = wX SX 91 := Fr.wld fx (fun o j a b hc => by unfold iX at hc; omega)
  have e2 : wM SM1 2 = wM SM 2 := wM_same (fun k a b => fm.2 _ _ (fun hc => by unfold iM at hc; omega)) (fun o j a b c d => fm.2 _ _ (fun hc => by unfold iM at hc; omega))
  refine ⟨b, ?_, ?_, ?_⟩
  · rw [fx.2 _ _ (fun hc => by unfold iX at hc; omega)]; exact h1
  · rw [fm.2 _ _ (fun hc => by unfold iM at hc; omega)]; exact h2
  · rw [e1, e2]; exact h3
def lX (o j : Nat) : Prop := ¬ (o = 81 ∧ j = 1) ∧ o ≠ 82
def lM (o j : Nat) : Prop := ¬ (o = 0 ∧ j = 56) ∧ ¬ (27 ≤ o ∧ o < 36 ∧ 3 ≤ j) ∧ ¬ (36 ≤ o ∧ o < 39 ∧ 12 ≤ j)
theorem LG.fr {T : TT} {SX SM SX1 SM1 : MS} (h : LG T SX SM) (fx : Fr lX SX SX1) (fm : Fr lM SM SM1) (hw : ∀ f, ¬ (4 ≤ f ∧ f ≤ 8) → wM SM1 0 f = wM SM 0 f) : LG T SX1 SM1 := by
  obtain ⟨n, h1, h2, h3, h4⟩ := h
  refine ⟨n, h1, ?_, ?_, fun k hk => ?_⟩
  · rw [fx.2 _ _ (fun hc => by unfold lX at hc; omega)]; exact h2
  · rw [fm.2 _ _ (fun hc => by unfold lM at hc; omega)]; exact h3
  · have e2 : wM SM1 (3 + k) = wM SM (3 + k) := wM_same (fun k a b => fm.2 _ _ (fun hc => by unfold lM at hc; omega)) (fun o j a b c d => fm.2 _ _ (fun hc => by unfold lM at hc; omega))
    have e82 : ∀ j, gI SX1 82 j = gI SX 82 j := fun j => fx.2 _ _ (fun hc => by unfold lX at hc; omega)
    obtain ⟨q1, q2, q3, q4, q5, q6, q7⟩ := h4 k hk
    unfold LN
    rw [e2]; simp only [e82]
    exact ⟨q1, q2, q3, q4, q5, fun f hf => by rw [hw f hf]; exact q6 f hf, q7⟩
def sX (o j : Nat) : Prop := ¬ (o = 84 ∧ j = 3) ∧ ¬ (o = 83 ∧ j = 2) ∧ o ≠ 85
def sM (o j : Nat) : Prop := ¬ (o = 0 ∧ (j = 66 ∨ j = 67)) ∧ ¬ (42 ≤ o ∧ o ≤ 46)
theorem SN.fr {SX SM SX1 SM1 : MS} {k : Nat} (h : SN SX SM k) (e85 : ∀ j, j < k * 5 + 5 → gI SX1 85 j = gI SX 85 j) (eM : ∀ o, 42 ≤ o → o ≤ 46 → gI SM1 o k = gI SM o k) : SN SX1 SM1 k := by
  unfold SN at *
  rw [e85 _ (by omega), e85 _ (by omega), e85 _ (by omega), e85 _ (by omega), e85 _ (by omega), eM 42 (by decide) (by decide), eM 43 (by decide) (by decide), eM 44 (by decide) (by decide), eM 45 (by decide) (by decide), eM 46 (by decide) (by decide)]
  exact h
theorem SE.fr {SX SM SX1 SM1 : MS} (h : SE SX SM) (fx : Fr sX SX SX1) (fm : Fr sM SM SM1) : SE SX1 SM1 := by
  obtain ⟨n, h1, h2, h3, h4, h5, h6⟩ := h
  refine ⟨n, h1, ?_, ?_, ?_, ?_, fun k hk => (h6 k hk).fr (fun j _ => fx.2 _ _ (fun hc => by unfold sX at hc; omega)) (fun o a b => fm.2 _ _ (fun hc => by unfold sM at hc; omega))⟩
  · rw [fx.2 _ _ (fun hc => by unfold sX at hc; omega)]; exact h2
  · rw [fm.2 _ _ (fun hc => by unfold sM at hc; omega)]; exact h3
  · rw [fx.2 _ _ (fun hc => by unfold sX at hc; omega), fm.2 _ _ (fun hc => by unfold sM at hc; omega)]; exact h4
  · rw [fm.2 _ _ (fun hc => by unfold sM at hc; omega)]; exact h5
def tpX (o j : Nat) : Prop := ¬ (o = 0 ∧ j = 12) ∧ o ≠ 1
def tpM (o j : Nat) : Prop := ¬ (o = 0 ∧ j = 2) ∧ o ≠ 1
theorem TP.fr {SX SM SX1 SM1 : MS} (h : TP SX SM) (fx : Fr tpX SX SX1) (fm : Fr tpM SM SM1) : TP SX1 SM1 := by
  obtain ⟨n, h1, h2, h3, h4⟩ := h
  refine ⟨n, h1, ?_, ?_, fun k hk => ?_⟩
  · rw [fx.2 _ _ (fun hc => by unfold tpX at hc; omega)]; exact h2
  · rw [fm.2 _ _ (fun hc => by unfold tpM at hc; omega)]; exact h3
  · rw [fx.2 _ _ (fun hc => by unfold tpX at hc; omega), fm.2 _ _ (fun hc => by unfold tpM at hc; omega)]; exact h4 k hk
def ftX (o j : Nat) : Prop := ¬ (o = 0 ∧ (j = 13 ∨ j = 14))
def ftM (o j : Nat) : Prop := ¬ (o = 0 ∧ (j = 36 ∨ j = 37))
theorem FT.fr {SX SM SX1 SM1 : MS} (h : FT SX SM) (fx : Fr ftX SX SX1) (fm : Fr ftM SM SM1) : FT SX1 SM1 := by
  unfold FT at *
  rw [fx.2 _ _ (fun hc => by unfold ftX at hc; omega), fx.2 _ _ (fun hc => by unfold ftX at hc; omega), fm.2 _ _ (fun hc => by unfold ftM at hc; omega), fm.2 _ _ (fun hc => by unfold ftM at hc; omega)]; exact h
/-- what calls use but do not keep -/
def QX (o j : Nat) : Prop := (53 ≤ o ∧ o ≤ 80) ∨ (86 ≤ o ∧ o < 91) ∨ (95 ≤ o ∧ o < 99)
def QM (o j : Nat) : Prop := (o = 0 ∧ (j = 0 ∨ j = 42 ∨ (58 ≤ j ∧ j ≤ 61) ∨ j = 65)) ∨ (27 ≤ o ∧ o < 36 ∧ j ≤ 1) ∨ (36 ≤ o ∧ o < 39 ∧ j < 8) ∨ (39 ≤ o ∧ o ≤ 41) ∨ o = 47
theorem QX_c : ∀ o j, QX o j → cX o j := fun o j h => by unfold QX at h; unfold cX; omega
theorem QX_i : ∀ o j, QX o j → iX o j := fun o j h => by unfold QX at h; unfold iX; omega
theorem QX_l : ∀ o j, QX o j → lX o j := fun o j h => by unfold QX at h; unfold lX; omega
theorem QX_s : ∀ o j, QX o j → sX o j := fun o j h => by unfold QX at h; unfold sX; omega
theorem QX_t : ∀ o j, QX o j → tpX o j := fun o j h => by unfold QX at h; unfold tpX; omega
theorem QX_f : ∀ o j, QX o j → ftX o j := fun o j h => by unfold QX at h; unfold ftX; omega
theorem QM_c : ∀ o j, QM o j → cM o j := fun o j h => by unfold QM at h; unfold cM; omega
theorem QM_i : ∀ o j, QM o j → iM o j := fun o j h => by unfold QM at h; unfold iM; omega
theorem QM_l : ∀ o j, QM o j → lM o j := fun o j h => by unfold QM at h; unfold lM; omega
theorem QM_s : ∀ o j, QM o j → sM o j := fun o j h => by unfold QM at h; unfold sM; omega
theorem QM_t : ∀ o j, QM o j → tpM o j := fun o j h => by unfold QM at h; unfold tpM; omega
theorem QM_f : ∀ o j, QM o j → ftM o j := fun o j h => by unfold QM at h; unfold ftM; omega
theorem Iv.quiet {t : Nat} {T : TT} {SX SM SX1 SM1 : MS} (h : Iv t T SX SM) (fx : Fr QX SX SX1) (ex : wX SX1 87 = wX SX 87) (fm : Fr QM SM SM1) (em : wM SM1 0 = wM SM 0) : Iv t T SX1 SM1 := by
  obtain ⟨h1, h2, h3, h4, h5, h6, h7⟩ := h
  refine ⟨h1.fr (fx.mo QX_c) (fm.mo QM_c), ?_, h3.fr (fx.mo QX_i) (fm.mo QM_i), h4.fr (fx.mo QX_l) (fm.mo QM_l) (fun f _ => by rw [em]), h5.fr (fx.mo QX_s) (fm.mo QM_s), h6.fr (fx.mo QX_t) (fm.mo QM_t), h7.fr (fx.mo QX_f) (fm.mo QM_f)⟩
  unfold NW; rw [ex, em]; exact h2
/-- the reference forgets what it threw -/
abbrev th0 (S : MS) : MS := pI S 0 0 0
theorem th0_q (S : MS) : Fr QM S (th0 S) := Fr.rf.pI (Or.inl ⟨rfl, Or.inl rfl⟩)
theorem th0_w (S : MS) (r : Nat) : wM (th0 S) r = wM S r := wM_ne (by omega)
theorem th0_t (S : MS) : tM (th0 S) = tM S := Fr.toldM (th0_q S) (fun o j a b hc => by unfold QM at hc; omega)
theorem Iv.th {t : Nat} {T : TT} {SX SM : MS} (h : Iv t T SX SM) : Iv t T SX (th0 SM) := h.quiet Fr.rf rfl (th0_q SM) (th0_w SM 0)
