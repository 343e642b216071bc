/-! ===== the class takes a line's word ===== -/
theorem bind_st {P : Option MS} {Q : MS → Option MS} : (P.bind fun q => some q).bind Q = P.bind Q := by cases P <;> rfl
theorem X_take_3 {t n u k : Nat} {bt : Nat → Nat} {SX : MS} (h : XL t n bt SX) (hu : isT u) (h9 : gR SX 48 9 = u) (hT : TBL SX (u + 3) 6 3 k) (hk : k < 6) : fX5_readSun 48 SX = (fX5_next 48 SX).bind (sunX (u + 3)) := by
  have ef : fX7_isFull (u + 3) SX = some 0 := by
    unfold fX7_isFull
    rw [hT.2.2.2.1, hT.2.1, if_pos ((nI_ltI (by omega) (by decide)).mpr hk)]
  have e2 : gR SX (gR SX 48 9) 2 = u + 3 := by rw [h9]; exact rt_2 h.1 hu
  unfold fX5_readSun
  rw [e2, ef, Option.bind_some]
  unfold fX5_takeWord fX5_takeWord_13
  rw [if_pos rfl]
  exact bind_st
theorem X_take_4 {t n u k : Nat} {bt : Nat → Nat} {SX : MS} (h : XL t n bt SX) (hu : isT u) (h9 : gR SX 48 9 = u) (hT : TBL SX (u + 5) 4 4 k) (hk : k < 4) : fX5_readLamp 48 SX = (fX5_next 48 SX).bind (lampX (u + 5)) := by
  have ef : fX7_isFull (u + 5) SX = some 0 := by
    unfold fX7_isFull
    rw [hT.2.2.2.1, hT.2.1, if_pos ((nI_ltI (by omega) (by decide)).mpr hk)]
  have e2 : gR SX (gR SX 48 9) 3 = u + 5 := by rw [h9]; exact rt_3 h.1 hu
  unfold fX5_readLamp
  rw [e2, ef, Option.bind_some]
  unfold fX5_takeWord fX5_takeWord_13
  rw [if_pos rfl]
  exact bind_st
theorem X_take_5 {t n u k : Nat} {bt : Nat → Nat} {SX : MS} (h : XL t n bt SX) (hu : isT u) (h9 : gR SX 48 9 = u) (hT : TBL SX (u + 7) 12 2 k) (hk : k < 12) : fX5_readStep 48 SX = (fX5_next 48 SX).bind (stepX (u + 7)) := by
  have ef : fX7_isFull (u + 7) SX = some 0 := by
    unfold fX7_isFull
    rw [hT.2.2.2.1, hT.2.1, if_pos ((nI_ltI (by omega) (by decide)).mpr hk)]
  have e2 : gR SX (gR SX 48 9) 4 = u + 7 := by rw [h9]; exact rt_4 h.1 hu
  unfold fX5_readStep
  rw [e2, ef, Option.bind_some]
  unfold fX5_takeWord fX5_takeWord_13
  rw [if_pos rfl]
  exact bind_st
theorem X_take_6 {t n u k : Nat} {bt : Nat → Nat} {SX : MS} (h : XL t n bt SX) (hu : isT u) (h9 : gR SX 48 9 = u) (hT : TBL SX (u + 9) 8 5 k) (hk : k < 8) : fX5_readDoing 48 SX = (fX5_next 48 SX).bind (doingX (u + 9)) := by
  have ef : fX7_isFull (u + 9) SX = some 0 := by
    unfold fX7_isFull
    rw [hT.2.2.2.1, hT.2.1, if_pos ((nI_ltI (by omega) (by decide)).mpr hk)]
  have e2 : gR SX (gR SX 48 9) 5 = u + 9 := by rw [h9]; exact rt_5 h.1 hu
  unfold fX5_readDoing
  rw [e2, ef, Option.bind_some]
  unfold fX5_takeWord fX5_takeWord_13
  rw [if_pos rfl]
  exact bind_st
theorem X_take_7 {t n u k : Nat} {bt : Nat → Nat} {SX : MS} (h : XL t n bt SX) (hu : isT u) (h9 : gR SX 48 9 = u) (hT : TBL SX (u + 11) 4 3 k) (hk : k < 4) : fX5_readMan 48 SX = (fX5_next 48 SX).bind (manX (u + 11)) := by
  have ef : fX7_isFull (u + 11) SX = some 0 := by
    unfold fX7_isFull
    rw [hT.2.2.2.1, hT.2.1, if_pos ((nI_ltI (by omega) (by decide)).mpr hk)]
  have e2 : gR SX (gR SX 48 9) 6 = u + 11 := by rw [h9]; exact rt_6 h.1 hu
  unfold fX5_readMan
  rw [e2, ef, Option.bind_some]
  unfold fX5_takeWord fX5_takeWord_13
  rw [if_pos rfl]
  exact bind_st
theorem X_take_2 {u k : Nat} {SX : MS} (h9 : gR SX 48 9 = u) (hx : gI SX u 12 = nI k) (hk : k < 8) : fX5_readWall 48 SX = (fX5_next 48 SX).bind wallX := by
  unfold fX5_readWall fX5_readWall_18
  rw [h9, hx, if_pos (show nI k < 8 from (nI_ltI (show k < 2 ^ 31 by omega) (show (8 : Nat) < 2 ^ 31 by decide)).mpr hk)]
  unfold fX5_takeWord fX5_takeWord_13
  rw [if_pos rfl]
  exact bind_st
theorem X_take_0 {SX : MS} (hx : gI SX 48 18 ≤ 0) : fX5_readRoom 48 SX = (fX5_next 48 SX).bind roomX := by
  unfold fX5_readRoom
  rw [if_pos hx]
  rfl
theorem X_take_1 {u : Nat} {SX : MS} (h9 : gR SX 48 9 = u) (hl : gI SX u 12 ≤ 0) (hx : gI SX 48 13 = 0) : fX5_readHer 48 SX = (fX5_next 48 SX).bind herX := by
  unfold fX5_readHer fX5_readHer_19 fX5_once fX5_once_13
  rw [h9, if_pos hl, if_pos hx]
  exact bind_st
theorem X_take_8 {SX : MS} (hx : gI SX 48 14 = 0) : fX5_readCloud 48 SX = (fX5_next 48 SX).bind cloudX := by
  unfold fX5_readCloud fX5_once fX5_once_13
  rw [if_pos hx]
  exact bind_st
theorem X_take_9 {SX : MS} (hx : gI SX 48 15 = 0) : fX5_readSeed 48 SX = (fX5_next 48 SX).bind seedX := by
  unfold fX5_readSeed fX5_once fX5_once_13
  rw [if_pos hx]
  exact bind_st
