/-! ===== before the first line: all is empty ===== -/
def clT (u : Nat) (S : MS) : Option MS := (fX7_empty (gR S u 2) S).bind fun q9 => (fX7_empty (gR q9 u 3) q9).bind fun q12 => (fX7_empty (gR q12 u 4) q12).bind fun q15 => (fX7_empty (gR q15 u 5) q15).bind fun q18 => (fX7_empty (gR q18 u 6) q18).bind fun q21 => fX8_clean_58 1000 u (0 : Int32) q21
theorem cl2s {m u : Nat} {x1 : Int32} {S : MS} : fX8_clean_2 (m + 1) u x1 S = (if (64 : Int32) ≤ x1 then clT u S else (if bnd x1 (lnX (gR S u 0)) = true then (fX8_clean_2 m) u (x1 + (1 : Int32)) (pI S (gR S u 0) x1.toNatClampNeg 0) else none)) := rfl
theorem X_cl_go {t u : Nat} (hu : isT u) : ∀ (d i fuel : Nat) (S : MS), 64 = i + d → d < fuel → RX t S → ∃ S1, fX8_clean_2 fuel u (nI i) S = clT u S1 ∧ Fr (fun o j => o = u + 1 ∧ i ≤ j) S S1 ∧ ∀ c, i ≤ c → c < 64 → gI S1 (u + 1) c = 0 := by
  intro d
  induction d with
  | zero =>
    intro i fuel S hd hf hR
    obtain ⟨m, rfl⟩ : ∃ m, fuel = m + 1 := ⟨fuel - 1, by omega⟩
    have e : i = 64 := by omega
    subst e
    exact ⟨S, by rw [cl2s, if_pos (show (64 : Int32) ≤ nI 64 by decide)], Fr.rf, fun c h1 h2 => absurd h1 (by omega)⟩
  | succ d ih =>
    intro i fuel S hd hf hR
    obtain ⟨m, rfl⟩ : ∃ m, fuel = m + 1 := ⟨fuel - 1, by omega⟩
    rw [cl2s, if_neg (show ¬ (64 : Int32) ≤ nI i from fun q => absurd ((nI_leI (show (64 : Nat) < 2 ^ 31 by decide) (show i < 2 ^ 31 by omega)).mp q) (by omega)), rt_0 hR hu, lt_1 hu, bnd_nI (by omega) (by decide), if_pos rfl, nI_clamp (by omega), nI_1]
    obtain ⟨S1, a1, a2, a3⟩ := ih (i + 1) m (pI S (u + 1) i 0) (by omega) (by omega) (hR.of rfl)
    have g0 : Fr (fun o j => o = u + 1 ∧ i ≤ j) S (pI S (u + 1) i 0) := Fr.rf.pI ⟨rfl, Nat.le_refl _⟩
    refine ⟨S1, a1, g0.tr (a2.mo (fun o j hp => ⟨hp.1, by omega⟩)), fun c h1 h2 => ?_⟩
    by_cases ci : c = i
    · rw [ci, a2.2 _ _ (fun hp => by omega), gI_same]
    · exact a3 c (by omega) h2
def c58e (u : Nat) (S : MS) : MS := pI (pI (pI (pI (pI (pI (pI (pI S u 8 (5 : Int32)) u 9 (5 : Int32)) u 10 (0 : Int32)) u 11 (0 : Int32)) u 12 (0 : Int32)) u 13 (0 : Int32)) u 14 (0 : Int32)) u 15 (0 : Int32)
theorem cl58s {m u : Nat} {x1 : Int32} {S : MS} : fX8_clean_58 (m + 1) u x1 S = (if (3 : Int32) ≤ x1 then some (c58e u S) else (if bnd x1 (lnX (gR S u 7)) = true then (fX8_clean_58 m) u (x1 + (1 : Int32)) (pI S (gR S (gR S u 7) x1.toNatClampNeg) 2 0) else none)) := rfl
theorem X_c58_go {t u : Nat} (hu : isT u) : ∀ (d i fuel : Nat) (S : MS), 3 = i + d → d < fuel → RX t S → ∃ S1, fX8_clean_58 fuel u (nI i) S = some (c58e u S1) ∧ Fr (fun o j => u + 14 + 3 * i ≤ o ∧ o ≤ u + 20 ∧ j = 2) S S1 ∧ ∀ k, i ≤ k → k < 3 → gI S1 (u + 14 + 3 * k) 2 = 0 := by
  intro d
  induction d with
  | zero =>
    intro i fuel S hd hf hR
    obtain ⟨m, rfl⟩ : ∃ m, fuel = m + 1 := ⟨fuel - 1, by omega⟩
    have e : i = 3 := by omega
    subst e
    exact ⟨S, by rw [cl58s, if_pos (show (3 : Int32) ≤ nI 3 by decide)], Fr.rf, fun c h1 h2 => absurd h1 (by omega)⟩
  | succ d ih =>
    intro i fuel S hd hf hR
    obtain ⟨m, rfl⟩ : ∃ m, fuel = m + 1 := ⟨fuel - 1, by omega⟩
    rw [cl58s, if_neg (show ¬ (3 : Int32) ≤ nI i from fun q => absurd ((nI_leI (show (3 : Nat) < 2 ^ 31 by decide) (show i < 2 ^ 31 by omega)).mp q) (by omega)), rt_7 hR hu, lt_13 hu, bnd_nI (by omega) (by decide), if_pos rfl, nI_clamp (by omega), rl_k hR hu (by omega), nI_1]
    obtain ⟨S1, a1, a2, a3⟩ := ih (i + 1) m (pI S (u + 14 + 3 * i) 2 0) (by omega) (by omega) (hR.of rfl)
    have g0 : Fr (fun o j => u + 14 + 3 * i ≤ o ∧ o ≤ u + 20 ∧ j = 2) S (pI S (u + 14 + 3 * i) 2 0) := Fr.rf.pI ⟨Nat.le_refl _, by omega, rfl⟩
    refine ⟨S1, a1, g0.tr (a2.mo (fun o j hp => ⟨by omega, hp.2⟩)), fun k h1 h2 => ?_⟩
    by_cases ci : k = i
    · rw [ci, a2.2 _ _ (fun hp => by omega), gI_same]
    · exact a3 k (by omega) h2
def CLX (u o j : Nat) : Prop := o = u + 1 ∨ (o = u ∧ 8 ≤ j) ∨ (u + 3 ≤ o ∧ o ≤ u + 11 ∧ (o - u) % 2 = 1 ∧ j = 3) ∨ (u + 14 ≤ o ∧ o ≤ u + 20 ∧ j = 2)
theorem CLX_PD {u : Nat} : ∀ o j, CLX u o j → PD u o j := fun o j h => by
  rcases h with h | ⟨rfl, h⟩ | h | h
  · exact Or.inr (Or.inr (Or.inr (Or.inl h)))
  · exact PDu h
  · exact Or.inr (Or.inr (Or.inr (Or.inr (Or.inl ⟨h.1, by omega, fun _ => h.2.2.2⟩))))
  · exact Or.inr (Or.inr (Or.inr (Or.inr (Or.inr ⟨h.1, by omega⟩))))
theorem X_clean {t u : Nat} {S : MS} (hu : isT u) (hR : RX t S) : ∃ S1, fX8_clean u S = some S1 ∧ Fr (CLX u) S S1 ∧ (∀ c, c < 64 → gI S1 (u + 1) c = 0) ∧ (∀ q, q < 5 → gI S1 (u + 3 + 2 * q) 3 = 0) ∧ (∀ k, k < 3 → gI S1 (u + 14 + 3 * k) 2 = 0) ∧ gI S1 u 8 = 5 ∧ gI S1 u 9 = 5 ∧ ∀ j, 10 ≤ j → j < 16 → gI S1 u j = 0 := by
  have hu' := hu
  unfold isT at hu'
  obtain ⟨A, a1, a2, a3⟩ := X_cl_go hu 64 0 1000 S rfl (by decide) hR
  have a1' : fX8_clean u S = clT u A := a1
  have rA := hR.of a2.1
  have e2 : clT u A = fX8_clean_58 1000 u (nI 0) (pI (pI (pI (pI (pI A (u + 3) 3 0) (u + 5) 3 0) (u + 7) 3 0) (u + 9) 3 0) (u + 11) 3 0) := by
    unfold clT fX7_empty
    rw [rt_2 rA hu, Option.bind_some, gR_pI, rt_3 rA hu, Option.bind_some, gR_pI, gR_pI, rt_4 rA hu, Option.bind_some, gR_pI, gR_pI, gR_pI, rt_5 rA hu, Option.bind_some, gR_pI, gR_pI, gR_pI, gR_pI, rt_6 rA hu, Option.bind_some]
    rfl
  have b0 : Fr (CLX u) S A := a2.mo (fun o j hp => Or.inl hp.1)
  have cq : ∀ q, q < 5 → CLX u (u + 3 + 2 * q) 3 := fun q hq => Or.inr (Or.inr (Or.inl ⟨by omega, by omega, by omega, rfl⟩))
  have b5 : Fr (CLX u) S (pI (pI (pI (pI (pI A (u + 3) 3 0) (u + 5) 3 0) (u + 7) 3 0) (u + 9) 3 0) (u + 11) 3 0) := ((((b0.pI (cq 0 (by decide))).pI (cq 1 (by decide))).pI (cq 2 (by decide))).pI (cq 3 (by decide))).pI (cq 4 (by decide))
  obtain ⟨B, c1, c2, c3⟩ := X_c58_go hu 3 0 1000 (pI (pI (pI (pI (pI A (u + 3) 3 0) (u + 5) 3 0) (u + 7) 3 0) (u + 9) 3 0) (u + 11) 3 0) rfl (by decide) (hR.of b5.1)
  have b8 : Fr (CLX u) S B := b5.tr (c2.mo (fun o j hp => Or.inr (Or.inr (Or.inr ⟨by omega, hp.2⟩))))
  have cu : ∀ j, 8 ≤ j → CLX u u j := fun j hj => Or.inr (Or.inl ⟨rfl, hj⟩)
  have ne : ∀ o j, o ≠ u → gI (c58e u B) o j = gI B o j := fun o j ho => by
    unfold c58e
    rw [gI_neo ho, gI_neo ho, gI_neo ho, gI_neo ho, gI_neo ho, gI_neo ho, gI_neo ho, gI_neo ho]
  refine ⟨c58e u B, by rw [a1', e2, c1], ?_, fun c hc => ?_, fun q hq => ?_, fun k hk => ?_, ?_, ?_, fun j j1 j2 => ?_⟩
  · exact (((((((b8.pI (cu 8 (by decide))).pI (cu 9 (by decide))).pI (cu 10 (by decide))).pI (cu 11 (by decide))).pI (cu 12 (by decide))).pI (cu 13 (by decide))).pI (cu 14 (by decide))).pI (cu 15 (by decide))
  · rw [ne _ _ (by omega), c2.2 _ _ (fun hp => by omega), gI_neo (by omega), gI_neo (by omega), gI_neo (by omega), gI_neo (by omega), gI_neo (by omega)]
    exact a3 c (Nat.zero_le _) hc
  · rw [ne _ _ (by omega), c2.2 _ _ (fun hp => by omega)]
    rcases (by omega : q = 0 ∨ q = 1 ∨ q = 2 ∨ q = 3 ∨ q = 4) with rfl | rfl | rfl | rfl | rfl
    · rw [gI_neo (by omega), gI_neo (by omega), gI_neo (by omega), gI_neo (by omega)]; exact gI_same
    · rw [gI_neo (by omega), gI_neo (by omega), gI_neo (by omega)]; exact gI_same
    · rw [gI_neo (by omega), gI_neo (by omega)]; exact gI_same
    · rw [gI_neo (by omega)]; exact gI_same
    · exact gI_same
  · rw [ne _ _ (by omega)]
    exact c3 k (Nat.zero_le _) hk
  · unfold c58e
    rw [gI_nek (by decide), gI_nek (by decide), gI_nek (by decide), gI_nek (by decide), gI_nek (by decide), gI_nek (by decide), gI_nek (by decide), gI_same]
  · unfold c58e
    rw [gI_nek (by decide), gI_nek (by decide), gI_nek (by decide), gI_nek (by decide), gI_nek (by decide), gI_nek (by decide), gI_same]
  · unfold c58e
    rcases (by omega : j = 10 ∨ j = 11 ∨ j = 12 ∨ j = 13 ∨ j = 14 ∨ j = 15) with rfl | rfl | rfl | rfl | rfl | rfl
    · rw [gI_nek (by decide), gI_nek (by decide), gI_nek (by decide), gI_nek (by decide), gI_nek (by decide), gI_same]
    · rw [gI_nek (by decide), gI_nek (by decide), gI_nek (by decide), gI_nek (by decide), gI_same]
    · rw [gI_nek (by decide), gI_nek (by decide), gI_nek (by decide), gI_same]
    · rw [gI_nek (by decide), gI_nek (by decide), gI_same]
    · rw [gI_nek (by decide), gI_same]
    · rw [gI_same]
/-! the reference -/
theorem m47s {m : Nat} {x2 : Int32} {S : MS} : fX11_text_47 (m + 1) 0 x2 S = (if (13 : Int32) ≤ x2 then fX11_text_76 1000 0 (3 : Int32) S else (if (1 : Int32) < x2 then (fX11_reads 0 x2 (0 : Int32) S).bind fun q84 => fX11_text_47 m 0 (x2 + (1 : Int32)) q84 else (fX11_reads 0 x2 (5 : Int32) S).bind fun q84 => fX11_text_47 m 0 (x2 + (1 : Int32)) q84)) := rfl
theorem M_47_go : ∀ (d i fuel : Nat) (S : MS), 13 = i + d → d < fuel → MR S → ∃ S1, fX11_text_47 fuel 0 (nI i) S = fX11_text_76 1000 0 (3 : Int32) S1 ∧ Fr (fun o j => o = 2 ∧ 13 + i ≤ j) S S1 ∧ ∀ j, i ≤ j → j < 13 → gI S1 2 (13 + j) = if j < 2 then 5 else 0 := by
  intro d
  induction d with
  | zero =>
    intro i fuel S hd hf hR
    obtain ⟨m, rfl⟩ : ∃ m, fuel = m + 1 := ⟨fuel - 1, by omega⟩
    have e : i = 13 := by omega
    subst e
    exact ⟨S, by rw [m47s, if_pos (show (13 : Int32) ≤ nI 13 by decide)], Fr.rf, fun c h1 h2 => absurd h1 (by omega)⟩
  | succ d ih =>
    intro i fuel S hd hf hR
    obtain ⟨m, rfl⟩ : ∃ m, fuel = m + 1 := ⟨fuel - 1, by omega⟩
    rw [m47s, if_neg (show ¬ (13 : Int32) ≤ nI i from fun q => absurd ((nI_leI (show (13 : Nat) < 2 ^ 31 by decide) (show i < 2 ^ 31 by omega)).mp q) (by omega))]
    have go : ∀ v : Int32, v = (if i < 2 then 5 else 0) → ∃ S1, (fX11_reads 0 (nI i) v S).bind (fun q84 => fX11_text_47 m 0 (nI i + (1 : Int32)) q84) = fX11_text_76 1000 0 (3 : Int32) S1 ∧ Fr (fun o j => o = 2 ∧ 13 + i ≤ j) S S1 ∧ ∀ j, i ≤ j → j < 13 → gI S1 2 (13 + j) = if j < 2 then 5 else 0 := fun v hv => by
      rw [M_rea hR (by omega), Option.bind_some, nI_1]
      obtain ⟨S1, a1, a2, a3⟩ := ih (i + 1) m (pI S 2 (13 + i) v) (by omega) (by omega) (hR.of rfl)
      have g0 : Fr (fun o j => o = 2 ∧ 13 + i ≤ j) S (pI S 2 (13 + i) v) := Fr.rf.pI ⟨rfl, Nat.le_refl _⟩
      refine ⟨S1, a1, g0.tr (a2.mo (fun o j hp => ⟨hp.1, by omega⟩)), fun c h1 h2 => ?_⟩
      by_cases ci : c = i
      · rw [ci, a2.2 _ _ (fun hp => by omega), gI_same, hv]
      · exact a3 c (by omega) h2
    by_cases c2 : i < 2
    · rw [if_neg (show ¬ (1 : Int32) < nI i from fun q => absurd ((nI_ltI (show (1 : Nat) < 2 ^ 31 by decide) (show i < 2 ^ 31 by omega)).mp q) (by omega))]
      exact go 5 (by rw [if_pos c2])
    · rw [if_pos (show (1 : Int32) < nI i from (nI_ltI (show (1 : Nat) < 2 ^ 31 by decide) (show i < 2 ^ 31 by omega)).mpr (by omega))]
      exact go 0 (by rw [if_neg c2])
def m76e (S : MS) : Option (Int32 × MS) := (fX11_token 0 (pI (pI (pI (pI (pI S 0 27 (0 : Int32)) 0 26 (0 : Int32)) 0 28 (0 : Int32)) 0 38 (0 : Int32)) 0 39 (0 : Int32))).bind fun q78 => fX11_text_131 1000 0 q78
theorem m76s {m : Nat} {x2 : Int32} {S : MS} : fX11_text_76 (m + 1) 0 x2 S = (if (6 : Int32) ≤ x2 then m76e S else (if bnd x2 (lnM (gR S 0 22)) = true then (if bnd x2 (lnM (gR (pI S (gR S 0 22) x2.toNatClampNeg (0 : Int32)) 0 23)) = true then fX11_text_76 m 0 (x2 + (1 : Int32)) (pI (pI S (gR S 0 22) x2.toNatClampNeg (0 : Int32)) (gR (pI S (gR S 0 22) x2.toNatClampNeg (0 : Int32)) 0 23) x2.toNatClampNeg (0 : Int32)) else none) else none)) := rfl
theorem M_76_go : ∀ (d i fuel : Nat) (S : MS), 6 = i + d → d < fuel → MR S → ∃ S1, fX11_text_76 fuel 0 (nI i) S = m76e S1 ∧ Fr (fun o j => (o = 21 ∨ o = 22) ∧ i ≤ j) S S1 ∧ ∀ j, i ≤ j → j < 6 → gI S1 21 j = 0 ∧ gI S1 22 j = 0 := by
  intro d
  induction d with
  | zero =>
    intro i fuel S hd hf hR
    obtain ⟨m, rfl⟩ : ∃ m, fuel = m + 1 := ⟨fuel - 1, by omega⟩
    have e : i = 6 := by omega
    subst e
    exact ⟨S, by rw [m76s, if_pos (show (6 : Int32) ≤ nI 6 by decide)], Fr.rf, fun c h1 h2 => absurd h1 (by omega)⟩
  | succ d ih =>
    intro i fuel S hd hf hR
    obtain ⟨m, rfl⟩ : ∃ m, fuel = m + 1 := ⟨fuel - 1, by omega⟩
    rw [m76s, if_neg (show ¬ (6 : Int32) ≤ nI i from fun q => absurd ((nI_leI (show (6 : Nat) < 2 ^ 31 by decide) (show i < 2 ^ 31 by omega)).mp q) (by omega)), mr_22 hR, lm_21, bnd_nI (by omega) (by decide), if_pos rfl, gR_pI, mr_23 hR, lm_22, bnd_nI (by omega) (by decide), if_pos rfl, nI_clamp (by omega), nI_1]
    obtain ⟨S1, a1, a2, a3⟩ := ih (i + 1) m (pI (pI S 21 i 0) 22 i 0) (by omega) (by omega) (hR.of rfl)
    have g0 : Fr (fun o j => (o = 21 ∨ o = 22) ∧ i ≤ j) S (pI (pI S 21 i 0) 22 i 0) := (Fr.rf.pI ⟨Or.inl rfl, Nat.le_refl _⟩).pI ⟨Or.inr rfl, Nat.le_refl _⟩
    refine ⟨S1, a1, g0.tr (a2.mo (fun o j hp => ⟨hp.1, by omega⟩)), fun c h1 h2 => ?_⟩
    by_cases ci : c = i
    · rw [ci, a2.2 _ _ (fun hp => by omega), a2.2 _ _ (fun hp => by omega)]
      exact ⟨by rw [gI_neo (by decide), gI_same], gI_same⟩
    · exact a3 c (by omega) h2
