/-! ===== a law's line: its words ===== -/
set_option maxRecDepth 100000 in
theorem lawk_dec : ∀ i, i < 24 → (11 ≤ i ∧ i ≤ 13) ∨ ((nI (20 + i) < 31 ∨ ¬ nI (20 + i) ≤ 33) ∧ (nI i < 11 ∨ ¬ nI i ≤ 13)) := by decide +kernel
theorem law_k {k v so va : Int32} (h : TK k v so va) : (∃ j, j < 3 ∧ k = nI (31 + j) ∧ so = 0 ∧ va = nI (11 + j)) ∨ ((k < 31 ∨ ¬ k ≤ 33) ∧ (so = 0 → va < 11 ∨ ¬ va ≤ 13)) := by
  rcases h with ⟨rfl, rfl⟩ | ⟨rfl, rfl⟩ | ⟨rfl, rfl, _⟩ | ⟨rfl, rfl, _⟩ | ⟨rfl, q⟩ | ⟨rfl, i, hi, rfl, rfl⟩
  · exact Or.inr ⟨Or.inl (by decide), fun q => absurd q (by decide)⟩
  · exact Or.inr ⟨Or.inl (by decide), fun q => absurd q (by decide)⟩
  · exact Or.inr ⟨Or.inl (by decide), fun q => absurd q (by decide)⟩
  · exact Or.inr ⟨Or.inl (by decide), fun q => absurd q (by decide)⟩
  · refine Or.inr ⟨Or.inl ?_, fun q => absurd q (by decide)⟩
    rcases of_decide_eq_true q with q | q | q | q | q | q | q | q | q | q | q | q | q <;> (rw [q.1]; decide)
  · rcases lawk_dec i hi with q | q
    · exact Or.inl ⟨i - 11, by omega, by rw [show 31 + (i - 11) = 20 + i by omega], rfl, by rw [show 11 + (i - 11) = i by omega]⟩
    · exact Or.inr ⟨q.1, fun _ => q.2⟩
theorem r48 : ∀ q ∈ rXl, ¬ (q.1 = 48 ∧ q.2.1 = 10) := by decide
theorem RX.p10 {t v : Nat} {S : MS} (h : RX t S) : RX t (pR S 48 10 v) := by
  obtain ⟨h1, h2, h3, h4, h5⟩ := h
  refine ⟨h1, ?_, ?_, ?_, fun q hq => ?_⟩
  · rw [gR_pR, if_neg (by decide)]; exact h2
  · rw [gR_pR, if_neg (by decide)]; exact h3
  · rw [gR_pR, if_neg (by decide)]; exact h4
  · rw [gR_pR, if_neg (r48 q hq)]; exact h5 q hq
theorem XL.p10 {t n v : Nat} {bt : Nat → Nat} {S : MS} (h : XL t n bt S) : XL t n bt (pR S 48 10 v) := by
  obtain ⟨h1, h2, h3, h4, h5, h6⟩ := h
  exact ⟨h1.p10, h2, by rw [gR_pR, if_neg (by decide)]; exact h3, h4, h5, h6⟩
theorem JO.p10 {t n a e v : Nat} {bt : Nat → Nat} {SX SM : MS} (h : JO t n bt a e SX SM) : JO t n bt a e (pR SX 48 10 v) SM := ⟨h.1.p10, h.2.1, h.2.2.1, h.2.2.2.1, h.2.2.2.2⟩
def lawX (S : MS) : Option MS := (if (gI S 48 5) < (31 : Int32) then fX5_readLaw_22 48 S else (if (gI S 48 5) ≤ (33 : Int32) then (if bnd ((gI S 48 5) - (31 : Int32)) (lnX (gR S (gR S 48 9) 7)) = true then (fX1_isTold (gR (pR S 48 10 (gR S (gR S (gR S 48 9) 7) ((gI S 48 5) - (31 : Int32)).toNatClampNeg)) 48 10) (pR S 48 10 (gR S (gR S (gR S 48 9) 7) ((gI S 48 5) - (31 : Int32)).toNatClampNeg))).bind fun q12 => (fX5_once 48 q12 (pR S 48 10 (gR S (gR S (gR S 48 9) 7) ((gI S 48 5) - (31 : Int32)).toNatClampNeg))).bind fun q14 => (fX5_readE 48 q14).bind fun q16 => some q16 else none) else fX5_readLaw_22 48 S))
theorem readLaw_eq {S : MS} : fX5_readLaw 48 S = (fX5_next 48 S).bind lawX := rfl
theorem rl_k {t u k : Nat} {S : MS} (hR : RX t S) (hu : isT u) (hk : k < 3) : gR S (u + 13) k = u + 14 + 3 * k := by
  rcases (by omega : k = 0 ∨ k = 1 ∨ k = 2) with rfl | rfl | rfl
  · exact rl_0 hR hu
  · exact rl_1 hR hu
  · exact rl_2 hR hu
/-- which law, and whether it was told -/
theorem lawX_eq {t n u k z : Nat} {bt : Nat → Nat} {S : MS} (h : XL t n bt S) (hu : isT u) (h9 : gR S 48 9 = u) (hk : k < 3) (h5 : gI S 48 5 = nI (31 + k)) (hz : gI S (u + 14 + 3 * k) 2 = nI z) (z64 : z ≤ 64) : lawX S = (fX5_once 48 (if z = 0 then 0 else 1) (pR S 48 10 (u + 14 + 3 * k))).bind fun q14 => (fX5_readE 48 q14).bind fun q16 => some q16 := by
  unfold lawX
  have e31 : nI (31 + k) - 31 = nI k := by rw [show (31 : Int32) = nI 31 from rfl, nI_subN (by omega), show 31 + k - 31 = k by omega]
  rw [h5, if_neg (show ¬ nI (31 + k) < 31 from fun q => absurd ((nI_ltI (show 31 + k < 2 ^ 31 by omega) (show (31 : Nat) < 2 ^ 31 by decide)).mp q) (by omega)), if_pos (show nI (31 + k) ≤ 33 from (nI_leI (show 31 + k < 2 ^ 31 by omega) (show (33 : Nat) < 2 ^ 31 by decide)).mpr (by omega)), e31, h9, rt_7 h.1 hu, lt_13 hu, bnd_nI hk (by decide), if_pos rfl, nI_clamp (by omega), rl_k h.1 hu hk]
  have e10 : gR (pR S 48 10 (u + 14 + 3 * k)) 48 10 = u + 14 + 3 * k := by rw [gR_pR, if_pos ⟨rfl, rfl⟩]
  rw [e10]
  unfold fX1_isTold
  rw [gI_pR, hz]
  by_cases c : z = 0
  · rw [if_pos (show nI z ≤ 0 by rw [c]; decide), if_pos c, Option.bind_some]
  · rw [if_neg (show ¬ nI z ≤ 0 from nle (i := 0) (by omega) (by omega)), if_neg c, Option.bind_some]
/-- no law's name: both fail -/
theorem law_bad {t n a e : Nat} {bt : Nat → Nat} {SX SM : MS} (h : JO t n bt a e SX SM) (hk : gI SX 48 5 < 31 ∨ ¬ gI SX 48 5 ≤ 33) (hm : gI SM 0 32 = 0 → gI SM 0 33 < 11 ∨ ¬ gI SM 0 33 ≤ 13) : ∃ SX1 SM1, lawX SX = some SX1 ∧ fX11_lawLine 0 SM = some SM1 ∧ JF t n bt SX1 SM1 ∧ Fr NY SX SX1 ∧ Fr NN SM SM1 := by
  obtain ⟨SX1, SM1, a1, a2, a3, a4, a5⟩ := j_fail (f := 1) h (by decide)
  have z : gI SM1 0 34 ≠ 0 := by
    obtain ⟨f, w, q1, _, q2, _⟩ := a3
    rw [q2]; exact q1.2.2.1
  refine ⟨SX1, SM1, ?_, ?_, a3, a4, a5⟩
  · unfold lawX fX5_readLaw_22
    rw [a1, Option.bind_some]
    rcases hk with q | q
    · rw [if_pos q]
    · rw [if_neg q]
      split <;> rfl
  · have e25 : fX11_lawLine_25 0 SM = some SM1 := by
      unfold fX11_lawLine_25 fX11_lawLine_30 fX11_lawLine_65
      rw [a2, Option.bind_some, if_neg z, if_neg z]
    unfold fX11_lawLine
    rw [e25]
    by_cases c : gI SM 0 32 = 0
    · rw [if_pos c]
      rcases hm c with q | q
      · rw [if_pos q]
      · rw [if_neg q]
        split <;> rfl
    · rw [if_neg c]
