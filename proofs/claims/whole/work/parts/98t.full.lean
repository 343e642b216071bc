/-! ===== lines that fail at their word: too many, told already ===== -/
theorem G_tw {t n u : Nat} {bt : Nat → Nat} {f w : Int32} {S0 S : MS} (h : GX t n bt f w u S0 S) : ∃ S1, fX5_takeWord_13 48 S = some S1 ∧ GX t n bt f w u S0 S1 := by
  obtain ⟨S1, a1, a2⟩ := G_next h
  unfold fX5_takeWord_13
  rw [a1, Option.bind_some]; exact ⟨S1, rfl, a2⟩
theorem G_on {t n u : Nat} {bt : Nat → Nat} {f w : Int32} {S0 S : MS} (h : GX t n bt f w u S0 S) : ∃ S1, fX5_once_13 48 S = some S1 ∧ GX t n bt f w u S0 S1 := by
  obtain ⟨S1, a1, a2⟩ := G_next h
  unfold fX5_once_13
  rw [a1, Option.bind_some]; exact ⟨S1, rfl, a2⟩
theorem X_tw1 {S : MS} : fX5_takeWord 48 1 S = (fX5_fail 48 2 (gI S 48 7) S).bind fun q4 => fX5_takeWord_13 48 q4 := by unfold fX5_takeWord; rw [if_neg (show ¬ (1 : Int32) = 0 by decide)]
theorem X_on1 {b : Int32} {S : MS} (h : b ≠ 0) : fX5_once 48 b S = (fX5_fail 48 3 (gI S 48 7) S).bind fun q4 => fX5_once_13 48 q4 := by unfold fX5_once; rw [if_neg h]
theorem line_full3 {t n u a e : Nat} {bt : Nat → Nat} {SX SM : MS} (h : JO t n bt a e SX SM) (hu : isT u) (hd : XD u SX) (hk : gI SX 48 5 = 23) (hx : gI SX (u + 3) 3 = nI 6) (hm : gI SM 2 18 = nI 6) :
    ∃ SX1 SM1, fX5_readLine 48 SX = some SX1 ∧ fX11_line 0 SM = some SM1 ∧ JF t n bt SX1 SM1 ∧ Fr (PD u) SX SX1 ∧ Fr NN SM SM1 := by
  obtain ⟨q1, q2⟩ := (h.2.2.2.2.2.2.2.2.2.2.wrd (j := 3) (by decide)).mp hk
  have mL : fX11_line 0 SM = (fX11_wrong 0 2 SM).bind (fun q156 => fX11_line_114 0 (nI 3) q156) := by
    rw [M_line_go h.2.1.1 q1 q2 (by decide) (fun q => absurd q (by decide)) (fun q => absurd q (by decide)), M_42_table h.2.1.1 q1 q2 (by decide) (by decide) hm (by decide), if_pos (by decide)]
  refine line_fail (T := fun q => ((fX5_takeWord_13 48 q).bind (sunX (u + 3))).bind fun q => fX5_readLine_150 48 q) h hu hd (show (2 : Int32) ≠ 0 by decide) ?_ (fun _ _ _ g => G_then g (fun _ g => G_then g (fun _ g => G_tw g) (fun _ g => F_sun g)) (fun _ g => F_end g)) mL (fun _ z => M_114_f z)
  obtain ⟨k, _, hT⟩ := hd.tbl (q := 0) hu h.1 (by decide)
  have e1 : gI SX (u + 3) 1 = nI 6 := hT.2.1
  have ef : fX7_isFull (u + 3) SX = some 1 := by
    unfold fX7_isFull
    rw [hx, e1, if_neg (by decide)]
  have er : fX5_readSun 48 SX = (fX5_takeWord 48 1 SX).bind (sunX (u + 3)) := by
    have e2 : gR SX (gR SX 48 9) 2 = u + 3 := by rw [hd.1]; exact rt_2 h.1.1 hu
    unfold fX5_readSun
    rw [e2, ef, Option.bind_some]
    rfl
  rw [X_line_3 hk, er, X_tw1]
  cases fX5_fail 48 2 (gI SX 48 7) SX <;> rfl
theorem line_full4 {t n u a e : Nat} {bt : Nat → Nat} {SX SM : MS} (h : JO t n bt a e SX SM) (hu : isT u) (hd : XD u SX) (hk : gI SX 48 5 = 24) (hx : gI SX (u + 5) 3 = nI 4) (hm : gI SM 2 19 = nI 4) :
    ∃ SX1 SM1, fX5_readLine 48 SX = some SX1 ∧ fX11_line 0 SM = some SM1 ∧ JF t n bt SX1 SM1 ∧ Fr (PD u) SX SX1 ∧ Fr NN SM SM1 := by
  obtain ⟨q1, q2⟩ := (h.2.2.2.2.2.2.2.2.2.2.wrd (j := 4) (by decide)).mp hk
  have mL : fX11_line 0 SM = (fX11_wrong 0 2 SM).bind (fun q156 => fX11_line_114 0 (nI 4) q156) := by
    rw [M_line_go h.2.1.1 q1 q2 (by decide) (fun q => absurd q (by decide)) (fun q => absurd q (by decide)), M_42_table h.2.1.1 q1 q2 (by decide) (by decide) hm (by decide), if_pos (by decide)]
  refine line_fail (T := fun q => ((fX5_takeWord_13 48 q).bind (lampX (u + 5))).bind fun q => fX5_readLine_150 48 q) h hu hd (show (2 : Int32) ≠ 0 by decide) ?_ (fun _ _ _ g => G_then g (fun _ g => G_then g (fun _ g => G_tw g) (fun _ g => F_lamp g)) (fun _ g => F_end g)) mL (fun _ z => M_114_f z)
  obtain ⟨k, _, hT⟩ := hd.tbl (q := 1) hu h.1 (by decide)
  have e1 : gI SX (u + 5) 1 = nI 4 := hT.2.1
  have ef : fX7_isFull (u + 5) SX = some 1 := by
    unfold fX7_isFull
    rw [hx, e1, if_neg (by decide)]
  have er : fX5_readLamp 48 SX = (fX5_takeWord 48 1 SX).bind (lampX (u + 5)) := by
    have e2 : gR SX (gR SX 48 9) 3 = u + 5 := by rw [hd.1]; exact rt_3 h.1.1 hu
    unfold fX5_readLamp
    rw [e2, ef, Option.bind_some]
    rfl
  rw [X_line_4 hk, er, X_tw1]
  cases fX5_fail 48 2 (gI SX 48 7) SX <;> rfl
theorem line_full5 {t n u a e : Nat} {bt : Nat → Nat} {SX SM : MS} (h : JO t n bt a e SX SM) (hu : isT u) (hd : XD u SX) (hk : gI SX 48 5 = 25) (hx : gI SX (u + 7) 3 = nI 12) (hm : gI SM 2 20 = nI 12) :
    ∃ SX1 SM1, fX5_readLine 48 SX = some SX1 ∧ fX11_line 0 SM = some SM1 ∧ JF t n bt SX1 SM1 ∧ Fr (PD u) SX SX1 ∧ Fr NN SM SM1 := by
  obtain ⟨q1, q2⟩ := (h.2.2.2.2.2.2.2.2.2.2.wrd (j := 5) (by decide)).mp hk
  have mL : fX11_line 0 SM = (fX11_wrong 0 2 SM).bind (fun q156 => fX11_line_114 0 (nI 5) q156) := by
    rw [M_line_go h.2.1.1 q1 q2 (by decide) (fun q => absurd q (by decide)) (fun q => absurd q (by decide)), M_42_table h.2.1.1 q1 q2 (by decide) (by decide) hm (by decide), if_pos (by decide)]
  refine line_fail (T := fun q => ((fX5_takeWord_13 48 q).bind (stepX (u + 7))).bind fun q => fX5_readLine_150 48 q) h hu hd (show (2 : Int32) ≠ 0 by decide) ?_ (fun _ _ _ g => G_then g (fun _ g => G_then g (fun _ g => G_tw g) (fun _ g => F_step g)) (fun _ g => F_end g)) mL (fun _ z => M_114_f z)
  obtain ⟨k, _, hT⟩ := hd.tbl (q := 2) hu h.1 (by decide)
  have e1 : gI SX (u + 7) 1 = nI 12 := hT.2.1
  have ef : fX7_isFull (u + 7) SX = some 1 := by
    unfold fX7_isFull
    rw [hx, e1, if_neg (by decide)]
  have er : fX5_readStep 48 SX = (fX5_takeWord 48 1 SX).bind (stepX (u + 7)) := by
    have e2 : gR SX (gR SX 48 9) 4 = u + 7 := by rw [hd.1]; exact rt_4 h.1.1 hu
    unfold fX5_readStep
    rw [e2, ef, Option.bind_some]
    rfl
  rw [X_line_5 hk, er, X_tw1]
  cases fX5_fail 48 2 (gI SX 48 7) SX <;> rfl
theorem line_full6 {t n u a e : Nat} {bt : Nat → Nat} {SX SM : MS} (h : JO t n bt a e SX SM) (hu : isT u) (hd : XD u SX) (hk : gI SX 48 5 = 26) (hx : gI SX (u + 9) 3 = nI 8) (hm : gI SM 2 21 = nI 8) :
    ∃ SX1 SM1, fX5_readLine 48 SX = some SX1 ∧ fX11_line 0 SM = some SM1 ∧ JF t n bt SX1 SM1 ∧ Fr (PD u) SX SX1 ∧ Fr NN SM SM1 := by
  obtain ⟨q1, q2⟩ := (h.2.2.2.2.2.2.2.2.2.2.wrd (j := 6) (by decide)).mp hk
  have mL : fX11_line 0 SM = (fX11_wrong 0 2 SM).bind (fun q156 => fX11_line_114 0 (nI 6) q156) := by
    rw [M_line_go h.2.1.1 q1 q2 (by decide) (fun q => absurd q (by decide)) (fun q => absurd q (by decide)), M_42_table h.2.1.1 q1 q2 (by decide) (by decide) hm (by decide), if_pos (by decide)]
  refine line_fail (T := fun q => ((fX5_takeWord_13 48 q).bind (doingX (u + 9))).bind fun q => fX5_readLine_150 48 q) h hu hd (show (2 : Int32) ≠ 0 by decide) ?_ (fun _ _ _ g => G_then g (fun _ g => G_then g (fun _ g => G_tw g) (fun _ g => F_doing g)) (fun _ g => F_end g)) mL (fun _ z => M_114_f z)
  obtain ⟨k, _, hT⟩ := hd.tbl (q := 3) hu h.1 (by decide)
  have e1 : gI SX (u + 9) 1 = nI 8 := hT.2.1
  have ef : fX7_isFull (u + 9) SX = some 1 := by
    unfold fX7_isFull
    rw [hx, e1, if_neg (by decide)]
  have er : fX5_readDoing 48 SX = (fX5_takeWord 48 1 SX).bind (doingX (u + 9)) := by
    have e2 : gR SX (gR SX 48 9) 5 = u + 9 := by rw [hd.1]; exact rt_5 h.1.1 hu
    unfold fX5_readDoing
    rw [e2, ef, Option.bind_some]
    rfl
  rw [X_line_6 hk, er, X_tw1]
  cases fX5_fail 48 2 (gI SX 48 7) SX <;> rfl
theorem line_full7 {t n u a e : Nat} {bt : Nat → Nat} {SX SM : MS} (h : JO t n bt a e SX SM) (hu : isT u) (hd : XD u SX) (hk : gI SX 48 5 = 27) (hx : gI SX (u + 11) 3 = nI 4) (hm : gI SM 2 22 = nI 4) :
    ∃ SX1 SM1, fX5_readLine 48 SX = some SX1 ∧ fX11_line 0 SM = some SM1 ∧ JF t n bt SX1 SM1 ∧ Fr (PD u) SX SX1 ∧ Fr NN SM SM1 := by
  obtain ⟨q1, q2⟩ := (h.2.2.2.2.2.2.2.2.2.2.wrd (j := 7) (by decide)).mp hk
  have mL : fX11_line 0 SM = (fX11_wrong 0 2 SM).bind (fun q156 => fX11_line_114 0 (nI 7) q156) := by
    rw [M_line_go h.2.1.1 q1 q2 (by decide) (fun q => absurd q (by decide)) (fun q => absurd q (by decide)), M_42_table h.2.1.1 q1 q2 (by decide) (by decide) hm (by decide), if_pos (by decide)]
  refine line_fail (T := fun q => ((fX5_takeWord_13 48 q).bind (manX (u + 11))).bind fun q => fX5_readLine_150 48 q) h hu hd (show (2 : Int32) ≠ 0 by decide) ?_ (fun _ _ _ g => G_then g (fun _ g => G_then g (fun _ g => G_tw g) (fun _ g => F_man g)) (fun _ g => F_end g)) mL (fun _ z => M_114_f z)
  obtain ⟨k, _, hT⟩ := hd.tbl (q := 4) hu h.1 (by decide)
  have e1 : gI SX (u + 11) 1 = nI 4 := hT.2.1
  have ef : fX7_isFull (u + 11) SX = some 1 := by
    unfold fX7_isFull
    rw [hx, e1, if_neg (by decide)]
  have er : fX5_readMan 48 SX = (fX5_takeWord 48 1 SX).bind (manX (u + 11)) := by
    have e2 : gR SX (gR SX 48 9) 6 = u + 11 := by rw [hd.1]; exact rt_6 h.1.1 hu
    unfold fX5_readMan
    rw [e2, ef, Option.bind_some]
    rfl
  rw [X_line_7 hk, er, X_tw1]
  cases fX5_fail 48 2 (gI SX 48 7) SX <;> rfl
