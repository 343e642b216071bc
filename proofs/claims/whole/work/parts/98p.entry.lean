/-! ===== a line's word, on the reference's side: full, told already, or taken ===== -/
theorem M_42_table {w k : Nat} {SM : MS} (hM : MR SM) (hs : gI SM 0 32 = 0) (hv : gI SM 0 33 = nI w) (h2 : 2 ≤ w) (h7 : w ≤ 7) (hk : gI SM 2 (15 + w) = nI k) (hk9 : k < 2 ^ 31) : fX11_line_42 0 0 SM = if k = fullM w then (fX11_wrong 0 2 SM).bind (fun q156 => fX11_line_114 0 (nI w) q156) else fX11_line_114 0 (nI w) SM := by
  have o1 : fX11_isOnce (nI w) SM = some 0 := by
    rcases (by omega : w = 2 ∨ w = 3 ∨ w = 4 ∨ w = 5 ∨ w = 6 ∨ w = 7) with rfl | rfl | rfl | rfl | rfl | rfl <;> rfl
  unfold fX11_line_42
  rw [if_pos hs, hv, if_neg (show ¬ (10 : Int32) < nI w from fun q => absurd ((nI_ltI (show (10 : Nat) < 2 ^ 31 by decide) (show w < 2 ^ 31 by omega)).mp q) (by omega)), if_pos rfl, M_full hM h2 h7 hk hk9, Option.bind_some]
  by_cases c : k = fullM w
  · rw [if_pos c, if_pos c, if_neg (show ¬ (1 : Int32) = 0 by decide)]
  · rw [if_neg c, if_neg c, if_pos rfl, o1, Option.bind_some, if_pos rfl]
theorem M_42_once {w : Nat} {SM : MS} (hs : gI SM 0 32 = 0) (hv : gI SM 0 33 = nI w) (hw : w = 1 ∨ w = 8 ∨ w = 9) : (tbit SM w → fX11_line_42 0 0 SM = (fX11_wrong 0 3 SM).bind (fun q154 => fX11_line_114 0 (nI w) q154)) ∧ (¬ tbit SM w → fX11_line_42 0 0 SM = fX11_line_114 0 (nI w) SM) := by
  have o1 : fX11_isOnce (nI w) SM = some 1 := by rcases hw with rfl | rfl | rfl <;> rfl
  have f0 : fX11_isFull 0 (nI w) SM = some 0 := by rcases hw with rfl | rfl | rfl <;> rfl
  have n10 : ¬ (10 : Int32) < nI w := fun q => absurd ((nI_ltI (show (10 : Nat) < 2 ^ 31 by decide) (show w < 2 ^ 31 by omega)).mp q) (by omega)
  constructor
  · intro tb
    unfold tbit at tb
    unfold fX11_line_42
    rw [if_pos hs, hv, if_neg n10, if_pos rfl, f0, Option.bind_some, if_pos rfl, o1, Option.bind_some, if_neg (show ¬ (1 : Int32) = 0 by decide), if_pos tb]
  · intro tb
    unfold tbit at tb
    unfold fX11_line_42
    rw [if_pos hs, hv, if_neg n10, if_pos rfl, f0, Option.bind_some, if_pos rfl, o1, Option.bind_some, if_neg (show ¬ (1 : Int32) = 0 by decide), if_neg tb]
theorem M_42_free {w : Nat} {SM : MS} (hs : gI SM 0 32 = 0) (hv : gI SM 0 33 = nI w) (hw : w = 0 ∨ w = 10) : fX11_line_42 0 0 SM = fX11_line_114 0 (nI w) SM := by
  have o1 : fX11_isOnce (nI w) SM = some 0 := by rcases hw with rfl | rfl <;> rfl
  have f0 : fX11_isFull 0 (nI w) SM = some 0 := by rcases hw with rfl | rfl <;> rfl
  have n10 : ¬ (10 : Int32) < nI w := fun q => absurd ((nI_ltI (show (10 : Nat) < 2 ^ 31 by decide) (show w < 2 ^ 31 by omega)).mp q) (by omega)
  unfold fX11_line_42
  rw [if_pos hs, hv, if_neg n10, if_pos rfl, f0, Option.bind_some, if_pos rfl, o1, Option.bind_some, if_pos rfl]
theorem M_114_f {w : Int32} {SM : MS} (h : gI SM 0 34 ≠ 0) : fX11_line_114 0 w SM = some SM := by
  unfold fX11_line_114
  rw [if_neg h]
/-- both take the word of a line -/
theorem j_word {t n u w a e : Nat} {bt : Nat → Nat} {SX SM : MS} (h : JO t n bt a e SX SM) (hw : w < 32) : ∃ A B a1 e1, fX5_next 48 SX = some A ∧ fX11_token 0 (pI SM 0 27 ((gI SM 0 27) ||| ((1 : Int32) <<< (nI w &&& 31)))) = some B ∧ JO t n bt a1 e1 A B ∧ Fr NX SX A ∧ Fr (fun o j => NM o j ∨ (o = 0 ∧ j = 27)) SM B ∧ e ≤ a1 ∧ gI B 0 27 = ((gI SM 0 27) ||| ((1 : Int32) <<< (nI w &&& 31))) := by
  obtain ⟨A, B, a1, e1, c1, c2, c3, c4, c5, c6, c7⟩ := j_next (h.pM (o := 0) (j := 27) (v := (gI SM 0 27) ||| ((1 : Int32) <<< (nI w &&& 31))) (by decide) (fun _ => by decide))
  refine ⟨A, B, a1, e1, c1, c2, c3, c4, ?_, c7, ?_⟩
  · have g : Fr (fun o j => NM o j ∨ (o = 0 ∧ j = 27)) SM (pI SM 0 27 ((gI SM 0 27) ||| ((1 : Int32) <<< (nI w &&& 31)))) := Fr.rf.pI (Or.inr ⟨rfl, rfl⟩)
    exact g.tr (c5.mo (fun _ _ hp => Or.inl hp))
  · rw [c5.2 _ _ (fun hp => by unfold NM at hp; omega), gI_same]
