/-! ===== a line's word, on the reference's side: full, told already, or taken ===== -/
theorem M_42_table {w k : Nat} {SM : MS} (hM : MR SM) (hs : gI SM 0 32 = 0) (hv : gI SM 0 33 = nI w) (h2 : 2 ≤ w) (h7 : w ≤ 7) (hk : gI SM 2 (15 + w) = nI k) (hk9 : k < 2 ^ 31) : fX11_line_42 0 0 SM = if k = fullM w then (fX11_wrong 0 2 SM).bind (fun q156 => fX11_line_114 0 (nI w) q156) else fX11_line_114 0 (nI w) SM := by
  have o1 : fX11_isOnce (nI w) SM = some 0 := by
    rcases (by omega : w = 2 ∨ w = 3 ∨ w = 4 ∨ w = 5 ∨ w = 6 ∨ w = 7) with rfl | rfl | rfl | rfl | rfl | rfl <;> rfl
  unfold fX11_line_42
  rw [if_pos hs, hv, if_neg (show ¬ (10 : Int32) < nI w from fun q => absurd ((nI_ltI (show (10 : Nat) < 2 ^ 31 by decide) (show w < 2 ^ 31 by omega)).mp q) (by omega)), if_pos rfl, M_full hM h2 h7 hk hk9, Option.bind_some]
  by_cases c : k = fullM w
  · rw [if_pos c, if_pos c, if_neg (show ¬ (1 : Int32) = 0 by decide)]
  · rw [if_neg c, if_neg c, if_pos rfl, o1, Option.bind_some, if_pos rfl]
theorem M_42_once {w : Nat} {SM : MS} (hs : gI SM 0 32 = 0) (hv : gI SM 0 33 = nI w) (hw : w = 1 ∨ w = 8 ∨ w = 9) : (tbit SM w → fX11_line_42 0 0 SM = (fX11_wrong 0 3 SM).bind (fun q154 => fX11_line_114 0 (nI w) q154)) ∧ (¬ tbit SM w → fX11_line_42 0 0 SM = fX11_line_114 0 (nI w) SM) := by
  have o1 : fX11_isOnce (nI w) SM = some 1 := by rcases hw with rfl | rfl | rfl <;> rfl
  have f0 : fX11_isFull 0 (nI w) SM = some 0 := by rcases hw with rfl | rfl | rfl <;> rfl
  have n10 : ¬ (10 : Int32) < nI w := fun q => absurd ((nI_ltI (show (10 : Nat) < 2 ^ 31 by decide) (show w < 2 ^ 31 by omega)).mp q) (by omega)
  constructor
  · intro tb
    unfold tbit at tb
    unfold fX11_line_42
    rw [if_pos hs, hv, if_neg n10, if_pos rfl, f0, Option.bind_some, if_pos rfl, o1, Option.bind_some, if_neg (show ¬ (1 : Int32) = 0 by decide), if_pos tb]
  · intro tb
    unfold tbit at tb
    unfold fX11_line_42
    rw [if_pos hs, hv, if_neg n10, if_pos rfl, f0, Option.bind_some, if_pos rfl, o1, Option.bind_some, if_neg (show ¬ (1 : Int32) = 0 by decide), if_neg tb]
theorem M_42_free {w : Nat} {SM : MS} (hs : gI SM 0 32 = 0) (hv : gI SM 0 33 = nI w) (hw : w = 0 ∨ w = 10) : fX11_line_42 0 0 SM = fX11_line_114 0 (nI w) SM := by
  have o1 : fX11_isOnce (nI w) SM = some 0 := by rcases hw with rfl | rfl <;> rfl
  have f0 : fX11_isFull 0 (nI w) SM = some 0 := by rcases hw with rfl | rfl <;> rfl
  have n10 : ¬ (10 : Int32) < nI w := fun q => absurd ((nI_ltI (show (10 : Nat) < 2 ^ 31 by decide) (show w < 2 ^ 31 by omega)).mp q) (by omega)
  unfold fX11_line_42
  rw [if_pos hs, hv, if_neg n10, if_pos rfl, f0, Option.bind_some, if_pos rfl, o1, Option.bind_some, if_pos rfl]
theorem M_114_f {w : Int32} {SM : MS} (h : gI SM 0 34 ≠ 0) : fX11_line_114 0 w SM = some SM := by
  unfold fX11_line_114
  rw [if_neg h]
/-- the place below which no later sign begins -/
def rbt (bt : Nat → Nat) (g i : Nat) : Nat := if i = 1000 then g else bt i
theorem rb_lt {bt : Nat → Nat} {g i : Nat} (h : i < 700) : rbt bt g i = bt i := by unfold rbt; rw [if_neg (by omega)]
theorem XL.rb {t n g : Nat} {bt : Nat → Nat} {S : MS} (h : XL t n bt S) : XL t n (rbt bt g) S := by
  obtain ⟨h1, h2, h3, h4, h5, h6⟩ := h
  exact ⟨h1, h2, h3, h4, h5, fun i hi => by rw [rb_lt (by omega)]; exact h6 i hi⟩
theorem ML.rb {n g : Nat} {bt : Nat → Nat} {S : MS} (h : ML n bt S) : ML n (rbt bt g) S := by
  obtain ⟨h1, h2, h3, h4⟩ := h
  exact ⟨h1, h2, h3, fun i hi => by rw [rb_lt (by omega)]; exact h4 i hi⟩
theorem XL.br {t n g : Nat} {bt : Nat → Nat} {S : MS} (h : XL t n (rbt bt g) S) : XL t n bt S := by
  obtain ⟨h1, h2, h3, h4, h5, h6⟩ := h
  exact ⟨h1, h2, h3, h4, h5, fun i hi => by have := h6 i hi; rw [rb_lt (by omega)] at this; exact this⟩
theorem ML.br {n g : Nat} {bt : Nat → Nat} {S : MS} (h : ML n (rbt bt g) S) : ML n bt S := by
  obtain ⟨h1, h2, h3, h4⟩ := h
  exact ⟨h1, h2, h3, fun i hi => by have := h4 i hi; rw [rb_lt (by omega)] at this; exact this⟩
theorem JO.rb {t n g a e : Nat} {bt : Nat → Nat} {SX SM : MS} (h : JO t n bt a e SX SM) (hg : g ≤ a) : JO t n (rbt bt g) a e SX SM := by
  obtain ⟨h1, h2, h3, h4, l1, l2, l3, l4, l5, l6⟩ := h
  exact ⟨h1.rb, h2.rb, h3, h4, l1, l2, l3, l4, ⟨l5.1, hg, l5.2.2⟩, l6⟩
theorem JO.br {t n g a e : Nat} {bt : Nat → Nat} {SX SM : MS} (h : JO t n (rbt bt g) a e SX SM) (hb : bt 1000 = 0) : JO t n bt a e SX SM ∧ g ≤ a := by
  obtain ⟨h1, h2, h3, h4, l1, l2, l3, l4, l5, l6⟩ := h
  exact ⟨⟨h1.br, h2.br, h3, h4, l1, l2, l3, l4, ⟨l5.1, by rw [hb]; exact Nat.zero_le _, l5.2.2⟩, l6⟩, l5.2.1⟩
theorem JF.br {t n g : Nat} {bt : Nat → Nat} {SX SM : MS} (h : JF t n (rbt bt g) SX SM) : JF t n bt SX SM := by
  obtain ⟨f, w, ⟨x1, x2⟩, m, q⟩ := h
  exact ⟨f, w, ⟨x1.br, x2⟩, m.br, q⟩
/-- both take the word of a line -/
theorem j_word {t n u w a e : Nat} {bt : Nat → Nat} {SX SM : MS} (h : JO t n bt a e SX SM) (hw : w < 32) : ∃ A B a1 e1, fX5_next 48 SX = some A ∧ fX11_token 0 (pI SM 0 27 ((gI SM 0 27) ||| ((1 : Int32) <<< (nI w &&& 31)))) = some B ∧ JO t n (rbt bt e) a1 e1 A B ∧ Fr NX SX A ∧ Fr (fun o j => NM o j ∨ (o = 0 ∧ j = 27)) SM B ∧ e ≤ a1 ∧ gI B 0 27 = ((gI SM 0 27) ||| ((1 : Int32) <<< (nI w &&& 31))) := by
  obtain ⟨A, B, a1, e1, c1, c2, c3, c4, c5, c6, c7⟩ := j_next (h.pM (o := 0) (j := 27) (v := (gI SM 0 27) ||| ((1 : Int32) <<< (nI w &&& 31))) (by decide) (fun _ => by decide))
  refine ⟨A, B, a1, e1, c1, c2, c3.rb c7, c4, ?_, c7, ?_⟩
  · have g : Fr (fun o j => NM o j ∨ (o = 0 ∧ j = 27)) SM (pI SM 0 27 ((gI SM 0 27) ||| ((1 : Int32) <<< (nI w &&& 31)))) := Fr.rf.pI (Or.inr ⟨rfl, rfl⟩)
    exact g.tr (c5.mo (fun _ _ hp => Or.inl hp))
  · rw [c5.2 _ _ (fun hp => by unfold NM at hp; omega), gI_same]
