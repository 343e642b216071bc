/-! ===== a line's word, on the reference's side ===== -/
theorem M_line_go {w : Nat} {SM : MS} (hM : MR SM) (hs : gI SM 0 32 = 0) (hv : gI SM 0 33 = nI w) (hw : w ≤ 10) (h0 : w = 0 → ¬ 0 < gI SM 0 28) (h1 : w = 1 → gI SM 2 17 ≤ 0) : fX11_line 0 SM = fX11_line_42 0 0 SM := by
  have e4 : fX11_fresher 0 (4 : Int32) SM = some (gI SM 2 17) := M_fre hM (j := 4) (by decide)
  have e21 : fX11_line_21 0 SM = fX11_line_42 0 0 SM := by
    unfold fX11_line_21 fX11_line_41
    by_cases c : w = 1
    · rw [hv, c, if_pos (show nI 1 = 1 from rfl), e4, Option.bind_some, if_pos (h1 c)]
    · rw [hv, if_neg (show ¬ nI w = 1 from fun q => c ((nI_eq (show w < 2 ^ 31 by omega) (show (1 : Nat) < 2 ^ 31 by decide)).mp q))]
  unfold fX11_line
  rw [if_pos hs]
  by_cases c : w = 0
  · rw [hv, c, if_pos (show nI 0 = 0 from rfl), if_neg (h0 c), e21]
  · rw [hv, if_neg (show ¬ nI w = 0 from fun q => c ((nI_eq (show w < 2 ^ 31 by omega) (show (0 : Nat) < 2 ^ 31 by decide)).mp q)), e21]
theorem M_line_late {w : Nat} {SM : MS} (hM : MR SM) (hs : gI SM 0 32 = 0) (hv : gI SM 0 33 = nI w) (h : (w = 0 ∧ 0 < gI SM 0 28) ∨ (w = 1 ∧ ¬ gI SM 2 17 ≤ 0)) : fX11_line 0 SM = (fX11_wrong 0 1 SM).bind fun q1 => some q1 := by
  have e4 : fX11_fresher 0 (4 : Int32) SM = some (gI SM 2 17) := M_fre hM (j := 4) (by decide)
  have e42 : w ≤ 10 → fX11_line_42 0 1 SM = (fX11_wrong 0 1 SM).bind fun q1 => some q1 := fun hw => by
    unfold fX11_line_42 fX11_line_63
    rw [if_pos hs, hv, if_neg (show ¬ (10 : Int32) < nI w from fun q => absurd ((nI_ltI (show (10 : Nat) < 2 ^ 31 by decide) (show w < 2 ^ 31 by omega)).mp q) (by omega)), if_neg (show ¬ (1 : Int32) = 0 by decide)]
  unfold fX11_line
  rw [if_pos hs]
  rcases h with ⟨rfl, q⟩ | ⟨rfl, q⟩
  · unfold fX11_line_37
    rw [hv, if_pos (show nI 0 = 0 from rfl), if_pos q, e42 (by decide)]
  · unfold fX11_line_21 fX11_line_37
    rw [hv, if_neg (show ¬ nI 1 = 0 by decide), if_pos (show nI 1 = 1 from rfl), e4, Option.bind_some, if_neg q, e42 (by decide)]
theorem M_line_no {SM : MS} (h : ¬ gI SM 0 32 = 0 ∨ (gI SM 0 32 = 0 ∧ 10 < gI SM 0 33)) : fX11_line 0 SM = (fX11_wrong 0 1 SM).bind fun q1 => some q1 := by
  unfold fX11_line fX11_line_21 fX11_line_41 fX11_line_42 fX11_line_63
  rcases h with h | ⟨h, q⟩
  · rw [if_neg h, if_neg h]
  · have n0 : ¬ gI SM 0 33 = 0 := fun z => by rw [z] at q; exact absurd q (by decide)
    have n1 : ¬ gI SM 0 33 = 1 := fun z => by rw [z] at q; exact absurd q (by decide)
    rw [if_pos h, if_neg n0, if_neg n1, if_pos h, if_pos q]
/-- how many a line's kind may have, and where the reference counts them -/
def fullM (w : Nat) : Nat := [0, 0, 8, 6, 4, 12, 8, 4].getD w 0
theorem M_full {w : Nat} {SM : MS} {k : Nat} (hM : MR SM) (h2 : 2 ≤ w) (h7 : w ≤ 7) (hk : gI SM 2 (15 + w) = nI k) (hk9 : k < 2 ^ 31) : fX11_isFull 0 (nI w) SM = some (if k = fullM w then 1 else 0) := by
  have e : fX11_fresher 0 (nI (2 + w)) SM = some (nI k) := (M_fre hM (j := 2 + w) (by omega)).trans (congrArg some (by rw [show 13 + (2 + w) = 15 + w by omega]; exact hk))
  have cs : ∀ m : Nat, m < 100 → (if nI k = nI m then (some 1 : Option Int32) else some 0) = some (if k = m then 1 else 0) := fun m hm => by
    by_cases c : k = m
    · rw [c, if_pos rfl, if_pos rfl]
    · rw [if_neg (fun q => c ((nI_eq hk9 (by omega)).mp q)), if_neg c]
  unfold fX11_isFull
  rcases (by omega : w = 2 ∨ w = 3 ∨ w = 4 ∨ w = 5 ∨ w = 6 ∨ w = 7) with rfl | rfl | rfl | rfl | rfl | rfl
  · rw [if_pos (show nI 2 = 2 from rfl), show fX11_fresher 0 4 SM = some (nI k) from e, Option.bind_some]; exact cs 8 (by decide)
  · rw [if_neg (show ¬ nI 3 = 2 by decide), if_pos (show nI 3 = 3 from rfl), show fX11_fresher 0 5 SM = some (nI k) from e, Option.bind_some]; exact cs 6 (by decide)
  · rw [if_neg (show ¬ nI 4 = 2 by decide), if_neg (show ¬ nI 4 = 3 by decide), if_pos (show nI 4 = 4 from rfl), show fX11_fresher 0 6 SM = some (nI k) from e, Option.bind_some]; exact cs 4 (by decide)
  · rw [if_neg (show ¬ nI 5 = 2 by decide), if_neg (show ¬ nI 5 = 3 by decide), if_neg (show ¬ nI 5 = 4 by decide), if_pos (show nI 5 = 5 from rfl), show fX11_fresher 0 7 SM = some (nI k) from e, Option.bind_some]; exact cs 12 (by decide)
  · rw [if_neg (show ¬ nI 6 = 2 by decide), if_neg (show ¬ nI 6 = 3 by decide), if_neg (show ¬ nI 6 = 4 by decide), if_neg (show ¬ nI 6 = 5 by decide), if_pos (show nI 6 = 6 from rfl), show fX11_fresher 0 8 SM = some (nI k) from e, Option.bind_some]; exact cs 8 (by decide)
  · rw [if_neg (show ¬ nI 7 = 2 by decide), if_neg (show ¬ nI 7 = 3 by decide), if_neg (show ¬ nI 7 = 4 by decide), if_neg (show ¬ nI 7 = 5 by decide), if_neg (show ¬ nI 7 = 6 by decide), if_pos (show nI 7 = 7 from rfl), show fX11_fresher 0 9 SM = some (nI k) from e, Option.bind_some]; exact cs 4 (by decide)
