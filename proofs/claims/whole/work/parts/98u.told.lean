/-! ===== lines that fail at their word: too many walls, told already ===== -/
theorem line_full2 {t n u a e : Nat} {bt : Nat → Nat} {SX SM : MS} (h : JO t n bt a e SX SM) (hu : isT u) (hd : XD u SX) (hk : gI SX 48 5 = 22) (hx : gI SX u 12 = nI 8) (hm : gI SM 2 17 = nI 8) :
    ∃ SX1 SM1, fX5_readLine 48 SX = some SX1 ∧ fX11_line 0 SM = some SM1 ∧ JF t n bt SX1 SM1 ∧ Fr (PD u) SX SX1 ∧ Fr NN SM SM1 := by
  obtain ⟨q1, q2⟩ := (h.2.2.2.2.2.2.2.2.2.2.wrd (j := 2) (by decide)).mp hk
  have mL : fX11_line 0 SM = (fX11_wrong 0 2 SM).bind (fun q156 => fX11_line_114 0 (nI 2) q156) := by
    rw [M_line_go h.2.1.1 q1 q2 (by decide) (fun q => absurd q (by decide)) (fun q => absurd q (by decide)), M_42_table h.2.1.1 q1 q2 (by decide) (by decide) hm (by decide), if_pos (by decide)]
  refine line_fail (T := fun q => ((fX5_takeWord_13 48 q).bind wallX).bind fun q => fX5_readLine_150 48 q) h hu hd (show (2 : Int32) ≠ 0 by decide) ?_ (fun _ _ _ g => G_then g (fun _ g => G_then g (fun _ g => G_tw g) (fun _ g => F_wall g)) (fun _ g => F_end g)) mL (fun _ z => M_114_f z)
  have er : fX5_readWall 48 SX = (fX5_takeWord 48 1 SX).bind wallX := by
    unfold fX5_readWall
    rw [hd.1, hx, if_neg (by decide)]
    rfl
  rw [X_line_2 hk, er, X_tw1]
  cases fX5_fail 48 2 (gI SX 48 7) SX <;> rfl
theorem line_told1 {t n u a e : Nat} {bt : Nat → Nat} {SX SM : MS} (h : JO t n bt a e SX SM) (hu : isT u) (hd : XD u SX) (hk : gI SX 48 5 = 21) (hx : gI SX 48 13 ≠ 0) (hm : tbit SM 1) (hl : gI SX u 12 ≤ 0) (hl2 : gI SM 2 17 ≤ 0) :
    ∃ SX1 SM1, fX5_readLine 48 SX = some SX1 ∧ fX11_line 0 SM = some SM1 ∧ JF t n bt SX1 SM1 ∧ Fr (PD u) SX SX1 ∧ Fr NN SM SM1 := by
  obtain ⟨q1, q2⟩ := (h.2.2.2.2.2.2.2.2.2.2.wrd (j := 1) (by decide)).mp hk
  have mL : fX11_line 0 SM = (fX11_wrong 0 3 SM).bind (fun q154 => fX11_line_114 0 (nI 1) q154) := by
    rw [M_line_go h.2.1.1 q1 q2 (by decide) (fun q => absurd q (by decide)) (fun _ => hl2), (M_42_once q1 q2 (by decide)).1 hm]
  refine line_fail (T := fun q => ((fX5_once_13 48 q).bind herX).bind fun q => fX5_readLine_150 48 q) h hu hd (show (3 : Int32) ≠ 0 by decide) ?_ (fun _ _ _ g => G_then g (fun _ g => G_then g (fun _ g => G_on g) (fun _ g => F_her g)) (fun _ g => F_end g)) mL (fun _ z => M_114_f z)
  have er : fX5_readHer 48 SX = (fX5_once 48 (gI SX 48 13) SX).bind herX := by
    unfold fX5_readHer
    rw [hd.1, if_pos hl]
    rfl
  rw [X_line_1 hk, er, X_on1 hx]
  cases fX5_fail 48 3 (gI SX 48 7) SX <;> rfl
theorem line_told8 {t n u a e : Nat} {bt : Nat → Nat} {SX SM : MS} (h : JO t n bt a e SX SM) (hu : isT u) (hd : XD u SX) (hk : gI SX 48 5 = 28) (hx : gI SX 48 14 ≠ 0) (hm : tbit SM 8) :
    ∃ SX1 SM1, fX5_readLine 48 SX = some SX1 ∧ fX11_line 0 SM = some SM1 ∧ JF t n bt SX1 SM1 ∧ Fr (PD u) SX SX1 ∧ Fr NN SM SM1 := by
  obtain ⟨q1, q2⟩ := (h.2.2.2.2.2.2.2.2.2.2.wrd (j := 8) (by decide)).mp hk
  have mL : fX11_line 0 SM = (fX11_wrong 0 3 SM).bind (fun q154 => fX11_line_114 0 (nI 8) q154) := by
    rw [M_line_go h.2.1.1 q1 q2 (by decide) (fun q => absurd q (by decide)) (fun q => absurd q (by decide)), (M_42_once q1 q2 (by decide)).1 hm]
  refine line_fail (T := fun q => ((fX5_once_13 48 q).bind cloudX).bind fun q => fX5_readLine_150 48 q) h hu hd (show (3 : Int32) ≠ 0 by decide) ?_ (fun _ _ _ g => G_then g (fun _ g => G_then g (fun _ g => G_on g) (fun _ g => F_cloud g)) (fun _ g => F_end g)) mL (fun _ z => M_114_f z)
  have er : fX5_readCloud 48 SX = (fX5_once 48 (gI SX 48 14) SX).bind cloudX := by
    rfl
  rw [X_line_8 hk, er, X_on1 hx]
  cases fX5_fail 48 3 (gI SX 48 7) SX <;> rfl
theorem line_told9 {t n u a e : Nat} {bt : Nat → Nat} {SX SM : MS} (h : JO t n bt a e SX SM) (hu : isT u) (hd : XD u SX) (hk : gI SX 48 5 = 29) (hx : gI SX 48 15 ≠ 0) (hm : tbit SM 9) :
    ∃ SX1 SM1, fX5_readLine 48 SX = some SX1 ∧ fX11_line 0 SM = some SM1 ∧ JF t n bt SX1 SM1 ∧ Fr (PD u) SX SX1 ∧ Fr NN SM SM1 := by
  obtain ⟨q1, q2⟩ := (h.2.2.2.2.2.2.2.2.2.2.wrd (j := 9) (by decide)).mp hk
  have mL : fX11_line 0 SM = (fX11_wrong 0 3 SM).bind (fun q154 => fX11_line_114 0 (nI 9) q154) := by
    rw [M_line_go h.2.1.1 q1 q2 (by decide) (fun q => absurd q (by decide)) (fun q => absurd q (by decide)), (M_42_once q1 q2 (by decide)).1 hm]
  refine line_fail (T := fun q => ((fX5_once_13 48 q).bind seedX).bind fun q => fX5_readLine_150 48 q) h hu hd (show (3 : Int32) ≠ 0 by decide) ?_ (fun _ _ _ g => G_then g (fun _ g => G_then g (fun _ g => G_on g) (fun _ g => F_seed g)) (fun _ g => F_end g)) mL (fun _ z => M_114_f z)
  have er : fX5_readSeed 48 SX = (fX5_once 48 (gI SX 48 15) SX).bind seedX := by
    rfl
  rw [X_line_9 hk, er, X_on1 hx]
  cases fX5_fail 48 3 (gI SX 48 7) SX <;> rfl
