/-! ===== both take what they have read: the same is told ===== -/
theorem sunGo_rng {hr : Nat → Int32} {h : Int32} {N : Nat} : ∀ (n i : Nat) (best last : Int32), i + n ≤ N → (best = -1 ∨ ∃ j, j < N ∧ best = nI j) → (last = -1 ∨ ∃ j, j < N ∧ last = nI j) → (sunGo hr h n i best last = -1 ∨ ∃ j, j < N ∧ sunGo hr h n i best last = nI j) := by
  intro n
  induction n with
  | zero =>
    intro i best last _ hb hl
    show (if best = -1 then last else best) = -1 ∨ ∃ j, j < N ∧ (if best = -1 then last else best) = nI j
    split
    · exact hl
    · exact hb
  | succ n ih =>
    intro i best last hi hb hl
    rw [sunGos]
    refine ih (i + 1) _ _ (by omega) ?_ ?_
    · split
      · exact Or.inr ⟨i, by omega, rfl⟩
      · exact hb
    · split
      · exact Or.inr ⟨i, by omega, rfl⟩
      · exact hl
theorem mNk5 : ∀ k, k < 5 → mNk k = 5 + k := by decide
section
variable {u r c hr hc nw cl sd kn ln : Nat} {kq zl : Nat → Nat} {A B A4 S2 : MS}
theorem tk_cnt (hb : BC u A B r c hr hc nw kq cl sd kn zl ln) (im : ∀ o, 2 ≤ o → o < 25 → ∀ j, j < hf o → gI S2 o j = gI B o (hf o + j)) {q : Nat} (hq : q < 5) : gI S2 2 (5 + q) = nI (kq q) := by
  rw [im 2 (by decide) (by decide) (5 + q) (show 5 + q < 13 by omega), show hf 2 + (5 + q) = 18 + q from (by show 13 + (5 + q) = 18 + q; omega)]
  exact (hb.2.2.2.1 q hq).2.2.1
theorem tk_sc (hb : BC u A B r c hr hc nw kq cl sd kn zl ln) (im : ∀ o, 2 ≤ o → o < 25 → ∀ j, j < hf o → gI S2 o j = gI B o (hf o + j)) : gI S2 2 0 = nI r ∧ gI S2 2 1 = nI c ∧ gI S2 2 2 = nI hr ∧ gI S2 2 3 = nI hc ∧ gI S2 2 4 = nI nw ∧ gI S2 2 10 = nI cl ∧ gI S2 2 11 = nI sd ∧ gI S2 2 12 = nI kn := by
  obtain ⟨h1, h2, h3, h4, h5, h6, h7, h8, h9, h10⟩ := hb
  have g : ∀ j, j < 13 → gI S2 2 j = gI B 2 (13 + j) := fun j hj => im 2 (by decide) (by decide) j hj
  exact ⟨(g 0 (by decide)).trans h1.2.2.1, (g 1 (by decide)).trans h1.2.2.2.2.2.2.1, (g 2 (by decide)).trans h2.2.1, (g 3 (by decide)).trans h2.2.2.2.2.1, (g 4 (by decide)).trans h3.2.2.1, (g 10 (by decide)).trans h6.2.1, (g 11 (by decide)).trans h7.2.1, (g 12 (by decide)).trans h8.2.2.1⟩
theorem tk_row (hb : BC u A B r c hr hc nw kq cl sd kn zl ln) (im : ∀ o, 2 ≤ o → o < 25 → ∀ j, j < hf o → gI S2 o j = gI B o (hf o + j)) {q i j : Nat} (hq : q < 5) (hi : i < kq q) (hj : j < wid q) : ∃ x, gI A (u + 4 + 2 * q) (i * wid q + j) = nI x ∧ gI S2 (mB q + j) i = nI x ∧ rgL q j ≤ x ∧ x ≤ rgM q j := by
  have h4 := hb.2.2.2.1 q hq
  obtain ⟨x, x1, x2, x3, x4⟩ := h4.2.2.2 i hi j hj
  have h5 := (mBq q hq).2.2.2.1
  obtain ⟨t1, t2, t3⟩ := hf_tb q hq j (by omega) hj
  have hk := h4.1
  exact ⟨x, x1, by rw [im _ t2 t3 i (by omega), t1]; exact x2, x3, x4⟩
theorem tk_law (hb : BC u A B r c hr hc nw kq cl sd kn zl ln) (im : ∀ o, 2 ≤ o → o < 25 → ∀ j, j < hf o → gI S2 o j = gI B o (hf o + j)) {k : Nat} (hk : k < 3) : ∃ f, gI S2 21 k = nI f ∧ gI S2 22 k = nI (f + zl k) ∧ f + zl k ≤ kn ∧ kn ≤ 64 ∧ lwM S2 k = ouX A (u + 14 + 3 * k) (zl k) := by
  obtain ⟨l1, l2, f, l3, l4, l5, l6, l7, l8⟩ := hb.2.2.2.2.2.2.2.2.1 k hk
  have k64 := hb.2.2.2.2.2.2.2.1.2.2.2.1
  have e21 : gI S2 21 k = nI f := (im 21 (by decide) (by decide) k hk).trans l3
  have e22 : gI S2 22 k = nI (f + zl k) := (im 22 (by decide) (by decide) k hk).trans l4
  refine ⟨f, e21, e22, l5, k64, ?_⟩
  unfold lwM
  rw [if_pos hk, e21, e22, nI_clamp (by omega), nI_clamp (by omega), show f + zl k - f = zl k by omega, l6]
  exact map_rc (fun i hi => by rw [im 23 (by decide) (by decide) (f + i) (show f + i < 64 by omega), im 24 (by decide) (by decide) (f + i) (show f + i < 64 by omega)]; rfl)
theorem told_eq (hu : isT u) (hb : BC u A B r c hr hc nw kq cl sd kn zl ln) (ia : ∀ o j, o ≠ 0 → o ≠ u + 2 → gI A4 o j = gI A o j) (im : ∀ o, 2 ≤ o → o < 25 → ∀ j, j < hf o → gI S2 o j = gI B o (hf o + j)) (hs : ∀ j, j < 24 → gI A4 (u + 2) j = sunGo (fun i => gI S2 4 i) (nI j) (kq 0) 0 (-1) (-1)) : tX A4 u = tM S2 := by
  have hu' := hu
  unfold isT at hu'
  obtain ⟨s0, s1, s2, s3, s4, s10, s11, s12⟩ := tk_sc hb im
  have kb : ∀ q, q < 5 → kq q < 2 ^ 31 := fun q hq => by have := (hb.2.2.2.1 q hq).1; have := (mBq q hq).2.2.2.2; omega
  have cX : ∀ q, q < 5 → gI A4 (u + 3 + 2 * q) 3 = nI (kq q) := fun q hq => by rw [ia _ _ (by omega) (by omega)]; exact (hb.2.2.2.1 q hq).2.1
  have au : ∀ j, gI A4 u j = gI A u j := fun j => ia _ _ (by omega) (by omega)
  refine Prod.ext ?_ (Prod.ext ?_ (Prod.ext ?_ (Prod.ext ?_ ?_)))
  · funext k; show scX A4 u k = scM S2 k
    unfold scX scM
    by_cases k5 : k < 5
    · rw [if_pos k5, if_pos k5, cX k k5, mNk5 k k5, tk_cnt hb im k5]
    · rw [if_neg k5, if_neg k5]
      by_cases k8 : k < 8
      · rw [if_pos k8, if_pos k8]
      · rw [if_neg k8, if_neg k8]
        by_cases k12 : k = 12
        · rw [if_pos k12, if_pos k12]
        · rw [if_neg k12, if_neg k12]
          by_cases k16 : k < 16
          · rw [if_pos k16, if_pos k16, au]
            obtain ⟨h1, h2, h3, h4, h5, h6, h7, h8, h9, h10⟩ := hb
            rcases (by omega : k = 8 ∨ k = 9 ∨ k = 10 ∨ k = 11 ∨ k = 13 ∨ k = 14 ∨ k = 15) with rfl | rfl | rfl | rfl | rfl | rfl | rfl
            · exact h1.2.1.trans s0.symm
            · exact h1.2.2.2.2.2.1.trans s1.symm
            · exact h2.1.trans s2.symm
            · exact h2.2.2.2.1.trans s3.symm
            · exact h6.1.trans s10.symm
            · exact h7.1.trans s11.symm
            · exact h8.1.trans s12.symm
          · rw [if_neg k16, if_neg k16]
  · funext q i j; show tbX A4 u q i j = tbM S2 q i j
    unfold tbX tbM
    by_cases hq : q < 5
    · rw [cX q hq, tk_cnt hb im hq, nI_clamp (kb q hq)]
      by_cases hj : j < wid q ∧ i < kq q
      · rw [if_pos ⟨hq, hj⟩, if_pos ⟨hq, hj⟩, ia _ _ (by omega) (by omega)]
        obtain ⟨x, x1, x2, _⟩ := tk_row hb im hq hj.2 hj.1
        rw [x1, x2]
      · rw [if_neg (fun h => hj h.2), if_neg (fun h => hj h.2)]
    · rw [if_neg (fun h => hq h.1), if_neg (fun h => hq h.1)]
  · funext x; show wlX A4 u x = wlM S2 x
    obtain ⟨w1, w2, w3, w4⟩ := hb.2.2.1
    unfold wlX wlM
    rw [s4, nI_clamp (by omega), ia _ _ (by omega) (by omega), decide_eq_decide]
    have e3 : ∀ k, k < nw → gI S2 3 k = gI B 3 (8 + k) := fun k hk => im 3 (by decide) (by decide) k (show k < 8 by omega)
    constructor
    · rintro ⟨h1, h2⟩
      obtain ⟨k, k1, k2⟩ := (w4 x h1).mp h2
      exact ⟨h1, k, k1, by rw [e3 k k1]; exact k2⟩
    · rintro ⟨h1, k, k1, k2⟩
      exact ⟨h1, (w4 x h1).mpr ⟨k, k1, by rw [e3 k k1] at k2; exact k2⟩⟩
  · funext h; show snX A4 u h = snM S2 h
    unfold snX snM
    by_cases h24 : h < 24
    · rw [if_pos h24, if_pos h24, show gI S2 2 5 = nI (kq 0) from tk_cnt hb im (q := 0) (by decide), nI_clamp (kb 0 (by decide))]
      exact hs h h24
    · rw [if_neg h24, if_neg h24]
  · funext k; show lwX A4 u k = lwM S2 k
    by_cases hk : k < 3
    · obtain ⟨f, _, _, _, _, e⟩ := tk_law hb im hk
      have hz := (hb.2.2.2.2.2.2.2.2.1 k hk).2.1
      have z64 := (hb.2.2.2.2.2.2.2.2.1 k hk).1
      rw [e]
      unfold lwX
      rw [if_pos hk, ia _ _ (by omega) (by omega), hz, nI_clamp (by omega)]
      exact map_rc (fun i _ => by rw [ia _ _ (by omega) (by omega), show u + 15 + 3 * k = u + 14 + 3 * k + 1 by omega])
    · unfold lwX lwM
      rw [if_neg hk, if_neg hk]
end
