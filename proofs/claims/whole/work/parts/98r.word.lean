/-! ===== a line's word, on the class's side ===== -/
theorem X_line_0 {S : MS} (h : gI S 48 5 = 20) : fX5_readLine 48 S = (fX5_readRoom 48 S).bind fun q => fX5_readLine_150 48 q := by
  unfold fX5_readLine
  rw [h]
  rfl
theorem X_line_1 {S : MS} (h : gI S 48 5 = 21) : fX5_readLine 48 S = (fX5_readHer 48 S).bind fun q => fX5_readLine_150 48 q := by
  unfold fX5_readLine
  rw [h]
  rfl
theorem X_line_2 {S : MS} (h : gI S 48 5 = 22) : fX5_readLine 48 S = (fX5_readWall 48 S).bind fun q => fX5_readLine_150 48 q := by
  unfold fX5_readLine
  rw [h]
  rfl
theorem X_line_3 {S : MS} (h : gI S 48 5 = 23) : fX5_readLine 48 S = (fX5_readSun 48 S).bind fun q => fX5_readLine_150 48 q := by
  unfold fX5_readLine
  rw [h]
  rfl
theorem X_line_4 {S : MS} (h : gI S 48 5 = 24) : fX5_readLine 48 S = (fX5_readLamp 48 S).bind fun q => fX5_readLine_150 48 q := by
  unfold fX5_readLine
  rw [h]
  rfl
theorem X_line_5 {S : MS} (h : gI S 48 5 = 25) : fX5_readLine 48 S = (fX5_readStep 48 S).bind fun q => fX5_readLine_150 48 q := by
  unfold fX5_readLine
  rw [h]
  rfl
theorem X_line_6 {S : MS} (h : gI S 48 5 = 26) : fX5_readLine 48 S = (fX5_readDoing 48 S).bind fun q => fX5_readLine_150 48 q := by
  unfold fX5_readLine
  rw [h]
  rfl
theorem X_line_7 {S : MS} (h : gI S 48 5 = 27) : fX5_readLine 48 S = (fX5_readMan 48 S).bind fun q => fX5_readLine_150 48 q := by
  unfold fX5_readLine
  rw [h]
  rfl
theorem X_line_8 {S : MS} (h : gI S 48 5 = 28) : fX5_readLine 48 S = (fX5_readCloud 48 S).bind fun q => fX5_readLine_150 48 q := by
  unfold fX5_readLine
  rw [h]
  rfl
theorem X_line_9 {S : MS} (h : gI S 48 5 = 29) : fX5_readLine 48 S = (fX5_readSeed 48 S).bind fun q => fX5_readLine_150 48 q := by
  unfold fX5_readLine
  rw [h]
  rfl
theorem X_line_10 {S : MS} (h : gI S 48 5 = 30) : fX5_readLine 48 S = (fX5_readLaw 48 S).bind fun q => fX5_readLine_150 48 q := by
  unfold fX5_readLine
  rw [h]
  rfl
theorem X_line_no {S : MS} (h : ∀ w, w < 11 → gI S 48 5 ≠ nI (20 + w)) : fX5_readLine 48 S = (fX5_fail 48 1 (gI S 48 7) S).bind fun q36 => fX5_readLine_150 48 q36 := by
  unfold fX5_readLine
  rw [if_neg (show ¬ gI S 48 5 = 20 from h 0 (by decide)), if_neg (show ¬ gI S 48 5 = 21 from h 1 (by decide)), if_neg (show ¬ gI S 48 5 = 22 from h 2 (by decide)), if_neg (show ¬ gI S 48 5 = 23 from h 3 (by decide)), if_neg (show ¬ gI S 48 5 = 24 from h 4 (by decide)), if_neg (show ¬ gI S 48 5 = 25 from h 5 (by decide)), if_neg (show ¬ gI S 48 5 = 26 from h 6 (by decide)), if_neg (show ¬ gI S 48 5 = 27 from h 7 (by decide)), if_neg (show ¬ gI S 48 5 = 28 from h 8 (by decide)), if_neg (show ¬ gI S 48 5 = 29 from h 9 (by decide)), if_neg (show ¬ gI S 48 5 = 30 from h 10 (by decide))]
/-- no line's word: both fail, and the line ends -/
theorem TK.now {k v so va : Int32} (h : TK k v so va) : (∃ w, w < 11 ∧ k = nI (20 + w) ∧ so = 0 ∧ va = nI w) ∨ ((∀ w, w < 11 → k ≠ nI (20 + w)) ∧ (¬ so = 0 ∨ (so = 0 ∧ 10 < va))) := by
  by_cases c : ∃ w, w < 11 ∧ k = nI (20 + w)
  · obtain ⟨w, hw, e⟩ := c
    obtain ⟨q1, q2⟩ := (h.wrd (j := w) (by omega)).mp e
    exact Or.inl ⟨w, hw, e, q1, q2⟩
  · refine Or.inr ⟨fun w hw e => c ⟨w, hw, e⟩, ?_⟩
    rcases h with ⟨rfl, rfl⟩ | ⟨rfl, rfl⟩ | ⟨rfl, rfl, _⟩ | ⟨rfl, rfl, _⟩ | ⟨rfl, q⟩ | ⟨rfl, i, hi, rfl, rfl⟩
    · exact Or.inl (by decide)
    · exact Or.inl (by decide)
    · exact Or.inl (by decide)
    · exact Or.inl (by decide)
    · exact Or.inl (by decide)
    · by_cases g : i < 11
      · exact absurd ⟨i, g, rfl⟩ c
      · exact Or.inr ⟨rfl, (nI_ltI (show (10 : Nat) < 2 ^ 31 by decide) (show i < 2 ^ 31 by omega)).mpr (by omega)⟩
