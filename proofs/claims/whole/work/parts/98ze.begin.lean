/-! ===== the first sign of a text ===== -/
theorem r48a : ∀ q ∈ rXl, ¬ (q.1 = 48 ∧ (q.2.1 = 2 ∨ q.2.1 = 9 ∨ q.2.1 = 10)) := by decide
theorem RX.rs {t : Nat} {S A : MS} (h : RX t S) (e : ∀ o j, ¬ (o = 48 ∧ (j = 2 ∨ j = 9 ∨ j = 10)) → gR A o j = gR S o j) : RX t A := by
  obtain ⟨h1, h2, h3, h4, h5⟩ := h
  refine ⟨h1, ?_, ?_, ?_, fun q hq => ?_⟩
  · rw [e _ _ (by decide)]; exact h2
  · rw [e _ _ (by decide)]; exact h3
  · rw [e _ _ (by decide)]; exact h4
  · rw [e _ _ (r48a q hq)]; exact h5 q hq
def btM (SM : MS) (i : Nat) : Nat := if i < 700 then (gI SM 1 i).toNatClampNeg else 0
theorem bind_st2 {α : Type} {P : Option MS} {Q : MS → Option α} : (P.bind fun q => some q).bind Q = P.bind Q := by cases P <;> rfl
theorem btM0 {SM : MS} : btM SM 1000 = 0 := rfl
def BGX (u : Nat) (S A : MS) : Prop := (∀ o j, ¬ (o = 48 ∧ (j = 2 ∨ j = 9 ∨ j = 10)) → gR A o j = gR S o j) ∧ ∀ o j, ¬ (PD u o j ∨ (o = 48 ∧ j = 3) ∨ (o = 0 ∧ j = 12)) → gI A o j = gI S o j
def BGM (o j : Nat) : Prop := QFM o j ∨ (o = 0 ∧ (j = 0 ∨ j = 2 ∨ j = 29))
theorem z_dec : ∀ h, h < 32 → ¬ (((0 : Int32) >>> (nI h &&& 31)) &&& 1 = 1) := by decide +kernel
theorem kCB {u : Nat} (hu : isT u) : ∀ q ∈ kXl, ¬ (PD u q.1 q.2.1 ∨ (q.1 = 48 ∧ q.2.1 = 3) ∨ (q.1 = 0 ∧ q.2.1 = 12)) := by
  intro q hq hp
  rcases hp with hp | hp | hp
  · exact kPD hu q hq hp
  · exact absurd hp ((by decide : ∀ q ∈ kXl, ¬ (q.1 = 48 ∧ q.2.1 = 3)) q hq)
  · exact absurd hp ((by decide : ∀ q ∈ kXl, ¬ (q.1 = 0 ∧ q.2.1 = 12)) q hq)
/-- the class before its first sign -/
theorem X_start {t n nt : Nat} {S : MS} (hR : RX t S) (hK : KX S) (n1 : n ≤ nt) (n7 : nt ≤ 700) (x12 : gI S 0 12 = nI nt) :
    ∃ A, fX10_text 0 (nI n) S = (fX5_next 48 A).bind (fun q => fX10_text_38 1000 0 (nI n) (nI 0) q) ∧ BGX (27 - t) S A ∧ gR A 48 2 = 1 ∧ gR A 48 9 = 27 - t ∧ gI A 48 3 = nI n ∧ gI A 48 4 = 0 ∧ gI A 0 12 = 0 ∧
      (∀ c, c < 64 → gI A (27 - t + 1) c = 0) ∧ (∀ q, q < 5 → gI A (27 - t + 3 + 2 * q) 3 = 0) ∧ (∀ k, k < 3 → gI A (27 - t + 14 + 3 * k) 2 = 0) ∧ gI A (27 - t) 8 = 5 ∧ gI A (27 - t) 9 = 5 ∧ (∀ j, 10 ≤ j → j < 16 → gI A (27 - t) j = 0) ∧
      (∀ j, 13 ≤ j → j ≤ 18 → j ≠ 17 → gI A 48 j = 0) ∧ gI A 48 17 = -1 := by
  have ht := hR.1
  have hu : isT (27 - t) := by unfold isT at *; omega
  have hu' := hu
  unfold isT at hu'
  generalize hU : 27 - t = u at *
  have ln1 : lnX 1 = 700 := rfl
  have e700 : ¬ Int32.ofNat (lnX 1) < nI n := by
    rw [ln1]
    exact fun q => absurd ((nI_ltI (show (700 : Nat) < 2 ^ 31 by decide) (show n < 2 ^ 31 by omega)).mp q) (by omega)
  generalize hS2 : pR (pI (pI (pI (pR (pI S 0 12 (0 : Int32)) 48 2 1) 48 3 (nI n)) 48 4 (0 : Int32)) 48 7 (0 : Int32)) 48 9 u = S2
  have q2 : ∀ o j, ¬ (o = 48 ∧ (j = 2 ∨ j = 9 ∨ j = 10)) → gR S2 o j = gR S o j := fun o j h => by
    rw [← hS2, gR_pR, if_neg (fun hh => h ⟨hh.1, by omega⟩), gR_pI, gR_pI, gR_pI, gR_pR, if_neg (fun hh => h ⟨hh.1, by omega⟩), gR_pI]
  have r2 : RX t S2 := hR.rs q2
  have g2 : gR S2 48 2 = 1 := by rw [← hS2, gR_pR, if_neg (by decide), gR_pI, gR_pI, gR_pI, gR_pR, if_pos ⟨rfl, rfl⟩]
  have g9 : gR S2 48 9 = u := by rw [← hS2, gR_pR, if_pos ⟨rfl, rfl⟩]
  have i2 : ∀ o j, ¬ (o = 48 ∧ (j = 3 ∨ j = 4 ∨ j = 7)) → ¬ (o = 0 ∧ j = 12) → gI S2 o j = gI S o j := fun o j h h' => by
    rw [← hS2, gI_pR]
    by_cases c48 : o = 48
    · subst c48
      rw [gI_nek (fun e => h ⟨rfl, by omega⟩), gI_nek (fun e => h ⟨rfl, by omega⟩), gI_nek (fun e => h ⟨rfl, by omega⟩), gI_pR, gI_neo (by decide)]
    · rw [gI_neo c48, gI_neo c48, gI_neo c48, gI_pR]
      by_cases c0 : o = 0
      · subst c0
        rw [gI_nek (fun e => h' ⟨rfl, e⟩)]
      · rw [gI_neo c0]
  have i3 : gI S2 48 3 = nI n := by rw [← hS2, gI_pR, gI_nek (by decide), gI_nek (by decide), gI_same]
  have i4 : gI S2 48 4 = 0 := by rw [← hS2, gI_pR, gI_nek (by decide), gI_same]
  have i12 : gI S2 0 12 = 0 := by rw [← hS2, gI_pR, gI_neo (by decide), gI_neo (by decide), gI_neo (by decide), gI_pR, gI_same]
  obtain ⟨S3, c1, c2, c3, c4, c5, c6, c7, c8⟩ := X_clean hu r2
  have h9 : gR (pR (pI (pI (pI (pR (pI S 0 12 (0 : Int32)) 48 2 1) 48 3 (nI n)) 48 4 (0 : Int32)) 48 7 (0 : Int32)) 48 9 u) 48 9 = u := by rw [hS2]; exact g9
  have ex : fX10_text 0 (nI n) S = (fX5_next 48 (pI (pI (pI (pI (pI (pI S3 48 13 (0 : Int32)) 48 14 (0 : Int32)) 48 15 (0 : Int32)) 48 16 (0 : Int32)) 48 17 (-1 : Int32)) 48 18 (0 : Int32))).bind (fun q => fX10_text_38 1000 0 (nI n) (nI 0) q) := by
    unfold fX10_text fX5_begin fX5_begin_25 fX5_begin_67
    rw [if_neg (nI_pos (by omega)), x12, if_pos ((nI_leI (by omega) (by omega)).mpr n1), gR_pI, gR_pI, gR_pI, rx_0_3 hR, rx_0_0 hR, rx_draft hR, hU, if_neg e700, h9, hS2, c1, Option.bind_some]
    exact bind_st2
  refine ⟨_, ex, ?_⟩
  have ne : ∀ o j, o ≠ 48 → gI (pI (pI (pI (pI (pI (pI S3 48 13 (0 : Int32)) 48 14 (0 : Int32)) 48 15 (0 : Int32)) 48 16 (0 : Int32)) 48 17 (-1 : Int32)) 48 18 (0 : Int32)) o j = gI S3 o j := fun o j ho => by
    rw [gI_neo ho, gI_neo ho, gI_neo ho, gI_neo ho, gI_neo ho, gI_neo ho]
  have n48 : ∀ j, (j < 13 ∨ 18 < j) → gI (pI (pI (pI (pI (pI (pI S3 48 13 (0 : Int32)) 48 14 (0 : Int32)) 48 15 (0 : Int32)) 48 16 (0 : Int32)) 48 17 (-1 : Int32)) 48 18 (0 : Int32)) 48 j = gI S2 48 j := fun j hj => by
    rw [gI_nek (by omega), gI_nek (by omega), gI_nek (by omega), gI_nek (by omega), gI_nek (by omega), gI_nek (by omega), c2.2 _ _ (fun hp => by unfold CLX at hp; omega)]
  refine ⟨⟨fun o j h => ?_, fun o j h => ?_⟩, ?_, ?_, ?_, ?_, ?_, fun c hc => ?_, fun q hq => ?_, fun k hk => ?_, ?_, ?_, fun j j1 j2 => ?_, fun j j1 j2 j3 => ?_, ?_⟩
  · rw [gR_pI, gR_pI, gR_pI, gR_pI, gR_pI, gR_pI, c2.ref]; exact q2 o j h
  · by_cases c48 : o = 48
    · subst c48
      have j4 : j < 4 := by
        by_cases q : j < 4
        · exact q
        · exact absurd (Or.inl (PD48 (by omega))) h
      rw [n48 j (by omega)]
      exact i2 48 j (fun e => h (Or.inr (Or.inl ⟨rfl, by omega⟩))) (by omega)
    · rw [ne o j c48, c2.2 o j (fun hp => h (Or.inl (CLX_PD o j hp)))]
      exact i2 o j (fun e => c48 e.1) (fun e => h (Or.inr (Or.inr e)))
  · rw [gR_pI, gR_pI, gR_pI, gR_pI, gR_pI, gR_pI, c2.ref]; exact g2
  · rw [gR_pI, gR_pI, gR_pI, gR_pI, gR_pI, gR_pI, c2.ref]; exact g9
  · rw [n48 3 (by decide)]; exact i3
  · rw [n48 4 (by decide)]; exact i4
  · rw [ne _ _ (by decide), c2.2 _ _ (fun hp => by unfold CLX at hp; omega)]; exact i12
  · rw [ne _ _ (by omega)]; exact c3 c hc
  · rw [ne _ _ (by omega)]; exact c4 q hq
  · rw [ne _ _ (by omega)]; exact c5 k hk
  · rw [ne _ _ (by omega)]; exact c6
  · rw [ne _ _ (by omega)]; exact c7
  · rw [ne _ _ (by omega)]; exact c8 j j1 j2
  · rcases (by omega : j = 13 ∨ j = 14 ∨ j = 15 ∨ j = 16 ∨ j = 18) with rfl | rfl | rfl | rfl | rfl
    · rw [gI_nek (by decide), gI_nek (by decide), gI_nek (by decide), gI_nek (by decide), gI_nek (by decide), gI_same]
    · rw [gI_nek (by decide), gI_nek (by decide), gI_nek (by decide), gI_nek (by decide), gI_same]
    · rw [gI_nek (by decide), gI_nek (by decide), gI_nek (by decide), gI_same]
    · rw [gI_nek (by decide), gI_nek (by decide), gI_same]
    · rw [gI_same]
  · rw [gI_nek (by decide), gI_same]
/-- the reference before its first sign -/
theorem M_start {n nt : Nat} {S : MS} (hM : MR S) (n1 : n ≤ nt) (n7 : nt ≤ 700) (m2 : gI S 0 2 = nI nt) :
    ∃ B, fX11_text 0 (nI n) S = (fX11_token 0 B).bind (fun q => fX11_text_131 1000 0 q) ∧ Fr BGM S B ∧ gI B 0 29 = nI n ∧ gI B 0 2 = 0 ∧ gI B 0 30 = 0 ∧ gI B 0 34 = 0 ∧ gI B 0 35 = -1 ∧ (∀ j, j < 13 → gI B 2 (13 + j) = if j < 2 then 5 else 0) ∧ (∀ j, 3 ≤ j → j < 6 → gI B 21 j = 0 ∧ gI B 22 j = 0) ∧ (∀ j, (26 ≤ j ∧ j ≤ 28) ∨ j = 38 ∨ j = 39 → gI B 0 j = 0) := by
  generalize hS0 : pI (pI (pI (pI (pI (pI S 0 0 (0 : Int32)) 0 29 (nI n)) 0 2 (0 : Int32)) 0 30 (0 : Int32)) 0 34 (0 : Int32)) 0 35 (-1 : Int32) = S0
  have f0 : Fr BGM S S0 := by
    have q : ∀ j, (j = 0 ∨ j = 2 ∨ j = 29) → BGM 0 j := fun j hj => Or.inr ⟨rfl, hj⟩
    have q' : ∀ j, (30 ≤ j ∧ j ≤ 35) → BGM 0 j := fun j hj => Or.inl (Q0 (by omega))
    rw [← hS0]
    exact (((((Fr.rf.pI (q 0 (by decide))).pI (q 29 (by decide))).pI (q 2 (by decide))).pI (q' 30 (by decide))).pI (q' 34 (by decide))).pI (q' 35 (by decide))
  have r0 : MR S0 := hM.of f0.1
  obtain ⟨S1, a1, a2, a3⟩ := M_47_go 13 0 1000 S0 rfl (by decide) r0
  obtain ⟨S2, b1, b2, b3⟩ := M_76_go 3 3 1000 S1 rfl (by decide) (r0.of a2.1)
  have em : fX11_text 0 (nI n) S = (fX11_token 0 (pI (pI (pI (pI (pI S2 0 27 (0 : Int32)) 0 26 (0 : Int32)) 0 28 (0 : Int32)) 0 38 (0 : Int32)) 0 39 (0 : Int32))).bind (fun q => fX11_text_131 1000 0 q) := by
    have b1' : fX11_text_76 1000 0 (3 : Int32) S1 = m76e S2 := b1
    have a1' : fX11_text_47 1000 0 (0 : Int32) S0 = fX11_text_76 1000 0 (3 : Int32) S1 := a1
    unfold fX11_text
    rw [if_neg (nI_pos (by omega)), gI_nek (show (2 : Nat) ≠ 0 by decide), m2, if_pos ((nI_leI (by omega) (by omega)).mpr n1), hS0, a1', b1']
    rfl
  have n0 : ∀ j, ¬ ((26 ≤ j ∧ j ≤ 28) ∨ j = 38 ∨ j = 39) → gI (pI (pI (pI (pI (pI S2 0 27 (0 : Int32)) 0 26 (0 : Int32)) 0 28 (0 : Int32)) 0 38 (0 : Int32)) 0 39 (0 : Int32)) 0 j = gI S0 0 j := fun j hj => by
    rw [gI_nek (by omega), gI_nek (by omega), gI_nek (by omega), gI_nek (by omega), gI_nek (by omega), b2.2 _ _ (fun hp => by omega), a2.2 _ _ (fun hp => by omega)]
  have ne : ∀ o j, o ≠ 0 → gI (pI (pI (pI (pI (pI S2 0 27 (0 : Int32)) 0 26 (0 : Int32)) 0 28 (0 : Int32)) 0 38 (0 : Int32)) 0 39 (0 : Int32)) o j = gI S2 o j := fun o j ho => by
    rw [gI_neo ho, gI_neo ho, gI_neo ho, gI_neo ho, gI_neo ho]
  refine ⟨_, em, ?_, ?_, ?_, ?_, ?_, ?_, fun j hj => ?_, fun j j1 j2 => ?_, fun j hj => ?_⟩
  · have g1 : Fr BGM S S1 := f0.tr (a2.mo (fun o j hp => by obtain ⟨rfl, hp⟩ := hp; exact Or.inl (Q2 (by omega))))
    have g2 : Fr BGM S S2 := g1.tr (b2.mo (fun o j hp => Or.inl (Or.inr (Or.inr (Or.inr (Or.inr (Or.inr (Or.inr (Or.inr (Or.inr (Or.inl hp)))))))))))
    exact ((((g2.pI (Or.inl (Q0 (by decide)))).pI (Or.inl (Q0 (by decide)))).pI (Or.inl (Q0 (by decide)))).pI (Or.inl (Q0 (by decide)))).pI (Or.inl (Q0 (by decide)))
  · rw [n0 29 (by decide), ← hS0, gI_nek (by decide), gI_nek (by decide), gI_nek (by decide), gI_nek (by decide), gI_same]
  · rw [n0 2 (by decide), ← hS0, gI_nek (by decide), gI_nek (by decide), gI_nek (by decide), gI_same]
  · rw [n0 30 (by decide), ← hS0, gI_nek (by decide), gI_nek (by decide), gI_same]
  · rw [n0 34 (by decide), ← hS0, gI_nek (by decide), gI_same]
  · rw [n0 35 (by decide), ← hS0, gI_same]
  · rw [ne _ _ (by decide), b2.2 _ _ (fun hp => by omega)]; exact a3 j (Nat.zero_le _) hj
  · rw [ne _ _ (by decide), ne _ _ (by decide)]; exact b3 j j1 j2
  · rcases (by omega : j = 26 ∨ j = 27 ∨ j = 28 ∨ j = 38 ∨ j = 39) with rfl | rfl | rfl | rfl | rfl
    · rw [gI_nek (by decide), gI_nek (by decide), gI_nek (by decide), gI_same]
    · rw [gI_nek (by decide), gI_nek (by decide), gI_nek (by decide), gI_nek (by decide), gI_same]
    · rw [gI_nek (by decide), gI_nek (by decide), gI_same]
    · rw [gI_nek (by decide), gI_same]
    · rw [gI_same]
