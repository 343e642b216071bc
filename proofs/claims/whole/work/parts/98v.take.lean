/-! ===== the reference takes a line's word ===== -/
theorem M_114_0 {SM : MS} (h : gI SM 0 34 = 0) : fX11_line_114 0 (nI 0) SM = (fX11_token 0 (pI SM 0 27 ((gI SM 0 27) ||| ((1 : Int32) <<< (nI 0 &&& 31))))).bind fun S => roomM S := by
  unfold fX11_line_114
  rw [if_pos h]
  rfl
theorem M_114_1 {SM : MS} (h : gI SM 0 34 = 0) : fX11_line_114 0 (nI 1) SM = (fX11_token 0 (pI SM 0 27 ((gI SM 0 27) ||| ((1 : Int32) <<< (nI 1 &&& 31))))).bind fun S => herM S := by
  unfold fX11_line_114
  rw [if_pos h]
  rfl
theorem M_114_2 {SM : MS} (h : gI SM 0 34 = 0) : fX11_line_114 0 (nI 2) SM = (fX11_token 0 (pI SM 0 27 ((gI SM 0 27) ||| ((1 : Int32) <<< (nI 2 &&& 31))))).bind fun S => (fX11_wallLine 0 S).bind fun q69 => fX11_line_596 0 q69 := by
  unfold fX11_line_114
  rw [if_pos h]
  rfl
theorem M_114_3 {SM : MS} (h : gI SM 0 34 = 0) : fX11_line_114 0 (nI 3) SM = (fX11_token 0 (pI SM 0 27 ((gI SM 0 27) ||| ((1 : Int32) <<< (nI 3 &&& 31))))).bind fun S => (fX11_sunLine 0 S).bind fun q72 => fX11_line_596 0 q72 := by
  unfold fX11_line_114
  rw [if_pos h]
  rfl
theorem M_114_4 {SM : MS} (h : gI SM 0 34 = 0) : fX11_line_114 0 (nI 4) SM = (fX11_token 0 (pI SM 0 27 ((gI SM 0 27) ||| ((1 : Int32) <<< (nI 4 &&& 31))))).bind fun S => lampM S := by
  unfold fX11_line_114
  rw [if_pos h]
  rfl
theorem M_114_5 {SM : MS} (h : gI SM 0 34 = 0) : fX11_line_114 0 (nI 5) SM = (fX11_token 0 (pI SM 0 27 ((gI SM 0 27) ||| ((1 : Int32) <<< (nI 5 &&& 31))))).bind fun S => stepM S := by
  unfold fX11_line_114
  rw [if_pos h]
  rfl
theorem M_114_6 {SM : MS} (h : gI SM 0 34 = 0) : fX11_line_114 0 (nI 6) SM = (fX11_token 0 (pI SM 0 27 ((gI SM 0 27) ||| ((1 : Int32) <<< (nI 6 &&& 31))))).bind fun S => doingM S := by
  unfold fX11_line_114
  rw [if_pos h]
  rfl
theorem M_114_7 {SM : MS} (h : gI SM 0 34 = 0) : fX11_line_114 0 (nI 7) SM = (fX11_token 0 (pI SM 0 27 ((gI SM 0 27) ||| ((1 : Int32) <<< (nI 7 &&& 31))))).bind fun S => manM S := by
  unfold fX11_line_114
  rw [if_pos h]
  rfl
theorem M_114_8 {SM : MS} (h : gI SM 0 34 = 0) : fX11_line_114 0 (nI 8) SM = (fX11_token 0 (pI SM 0 27 ((gI SM 0 27) ||| ((1 : Int32) <<< (nI 8 &&& 31))))).bind fun S => cloudM S := by
  unfold fX11_line_114
  rw [if_pos h]
  rfl
theorem M_114_9 {SM : MS} (h : gI SM 0 34 = 0) : fX11_line_114 0 (nI 9) SM = (fX11_token 0 (pI SM 0 27 ((gI SM 0 27) ||| ((1 : Int32) <<< (nI 9 &&& 31))))).bind fun S => seedM S := by
  unfold fX11_line_114
  rw [if_pos h]
  rfl
theorem M_114_10 {SM : MS} (h : gI SM 0 34 = 0) : fX11_line_114 0 (nI 10) SM = (fX11_token 0 (pI SM 0 27 ((gI SM 0 27) ||| ((1 : Int32) <<< (nI 10 &&& 31))))).bind fun S => (fX11_lawLine 0 S).bind fun q141 => fX11_line_596 0 q141 := by
  unfold fX11_line_114
  rw [if_pos h]
  rfl
