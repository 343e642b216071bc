/-! ===== the class takes what it has read ===== -/
theorem rX_sw : ∀ q ∈ rXl, ¬ (q.1 = 0 ∧ (q.2.1 = 1 ∨ q.2.1 = 2)) ∧ ¬ (q.1 = 52 ∧ q.2.1 = 1) := by decide
def GX7 (u o j : Nat) : Prop := (o = 0 ∧ 13 ≤ j ∧ j ≤ 15) ∨ o = u + 2 ∨ o = 53 ∨ (87 ≤ o ∧ o < 91) ∨ (o = 81 ∧ j = 1) ∨ (o = 84 ∧ j = 3) ∨ (o = 83 ∧ j = 2)
theorem X_good {t u k : Nat} {hr : Nat → Int32} {A1 : MS} (hU : 27 - t = u) (hR : RX t A1) (z : gI A1 48 16 = 0) (w : gI A1 48 17 = -1) (hT : TBL A1 (u + 3) 6 3 k) (hv : ∀ i, i < k → ∃ v, v < 24 ∧ gI A1 (u + 4) (i * 3 + 0) = nI v ∧ hr i = nI v) :
    ∃ A4 A7, fX10_text_66 0 A1 = some (gI A7 48 18, A7) ∧ (∀ o j, o ≠ 0 → o ≠ u + 2 → gI A4 o j = gI A1 o j) ∧ (∀ j, j < 24 → gI A4 (u + 2) j = sunGo hr (nI j) k 0 (-1) (-1)) ∧ RX u A7 ∧ tX A7 u = tX A4 u ∧ (∀ o j, ¬ GX7 u o j → gI A7 o j = gI A1 o j) ∧ wX A7 87 = begW (tX A4 u) (gI A1 u 10) (gI A1 u 11) ∧ gI A7 0 13 = 0 ∧ gI A7 0 14 = -1 ∧ gI A7 0 15 = 0 ∧ gI A7 81 1 = 0 ∧ gI A7 84 3 = 0 ∧ gI A7 83 2 = -1 := by
  have ht := hR.1
  have hu : isT u := by unfold isT at *; omega
  have hu' := hu
  unfold isT at hu' ht
  have tu : t = 27 - u := by omega
  generalize hA2 : pI (pI A1 0 13 (0 : Int32)) 0 14 (-1 : Int32) = A2
  have rA2 : RX t A2 := by rw [← hA2]; exact hR.of rfl
  have iA2 : ∀ o j, o ≠ 0 → gI A2 o j = gI A1 o j := fun o j ho => by rw [← hA2, gI_neo ho, gI_neo ho]
  generalize hA3 : pR (pR A2 0 1 u) 0 2 t = A3
  have gA3 : ∀ o j, ¬ (o = 0 ∧ (j = 1 ∨ j = 2)) → gR A3 o j = gR A2 o j := fun o j h => by
    rw [← hA3, gR_pR, if_neg (fun q => h ⟨q.1, Or.inr q.2⟩), gR_pR, if_neg (fun q => h ⟨q.1, Or.inl q.2⟩)]
  have g31 : gR A3 0 1 = u := by rw [← hA3, gR_pR, if_neg (by decide), gR_pR, if_pos ⟨rfl, rfl⟩]
  have g32 : gR A3 0 2 = t := by rw [← hA3, gR_pR, if_pos ⟨rfl, rfl⟩]
  have iA3 : ∀ o j, gI A3 o j = gI A2 o j := fun o j => by rw [← hA3]; rfl
  have hT3 : TBL A3 (u + 3) 6 3 k := by
    obtain ⟨t1, t2, t3, t4, t5⟩ := hT
    have t1' : gR A2 (u + 3) 0 = u + 3 + 1 := by rw [← hA2, gR_pI, gR_pI]; exact t1
    exact ⟨by rw [gA3 _ _ (by omega)]; exact t1', by rw [iA3, iA2 _ _ (by omega)]; exact t2, by rw [iA3, iA2 _ _ (by omega)]; exact t3, by rw [iA3, iA2 _ _ (by omega)]; exact t4, t5⟩
  obtain ⟨A4, b1, b2, b3⟩ := s2_go (hr := hr) hu 24 0 1000 A3 rfl (by decide) (by rw [gA3 _ _ (by omega)]; exact rt_1 rA2 hu) (by rw [gA3 _ _ (by omega)]; exact rt_2 rA2 hu) hT3 (fun i hi => by
    obtain ⟨v, v1, v2, v3⟩ := hv i hi
    exact ⟨v, v1, by rw [iA3, iA2 _ _ (by omega)]; exact v2, v3⟩)
  have b1' : fX8_settleSuns u A3 = some A4 := b1
  have i4 : ∀ o j, o ≠ 0 → o ≠ u + 2 → gI A4 o j = gI A1 o j := fun o j h1 h2 => by
    rw [b2.2 _ _ (fun hp => h2 hp.1), iA3, iA2 _ _ h1]
  have r5 : RX u (pR A4 52 1 u) := by
    refine ⟨hu, ?_, ?_, ?_, fun q hq => ?_⟩
    · rw [gR_pR, if_neg (by decide), b2.ref]; exact g31
    · rw [gR_pR, if_neg (by decide), b2.ref, g32]; exact tu
    · rw [gR_pR, if_pos ⟨rfl, rfl⟩]
    · rw [gR_pR, if_neg (rX_sw q hq).2, b2.ref, gA3 _ _ (rX_sw q hq).1]; exact rA2.2.2.2.2 q hq
  obtain ⟨A6, c1, c2, c3⟩ := X_begin (r := gI (pR A4 52 1 u) u 10) (c := gI (pR A4 52 1 u) u 11) r5 (show isW 87 by unfold isW; decide)
  have r6 : RX u A6 := r5.of c3.1
  have t5 : tX (pR A4 52 1 u) u = tX A4 u := rfl
  generalize hA7 : pI (pI (pI (pI A6 0 15 (0 : Int32)) 81 1 (0 : Int32)) 84 3 (0 : Int32)) 83 2 (-1 : Int32) = A7
  have r7 : RX u A7 := by rw [← hA7]; exact r6.of rfl
  have f7 : Fr (fun o j => (o = 0 ∧ j = 15) ∨ (o = 81 ∧ j = 1) ∨ (o = 84 ∧ j = 3) ∨ (o = 83 ∧ j = 2)) A6 A7 := by
    rw [← hA7]
    exact (((Fr.rf.pI (Or.inl ⟨rfl, rfl⟩)).pI (Or.inr (Or.inl ⟨rfl, rfl⟩))).pI (Or.inr (Or.inr (Or.inl ⟨rfl, rfl⟩)))).pI (Or.inr (Or.inr (Or.inr ⟨rfl, rfl⟩)))
  have ex : fX10_text_66 0 A1 = some (gI A7 48 18, A7) := by
    unfold fX10_text_66
    rw [rx_0_3 hR, gR_pI, rx_0_3 hR, z, gI_neo (show (48 : Nat) ≠ 0 by decide), w, hA2]
    unfold fX10_text_88
    rw [if_pos (show gI A2 0 13 = 0 by rw [← hA2, gI_nek (by decide), gI_same]), rx_draft rA2, rx_told rA2, hU, hA3]
    unfold fX10_startAnew
    have g4 : gR A4 0 4 = 52 := by rw [b2.ref, gA3 _ _ (by decide)]; exact rx_0_4 rA2
    have g1 : gR A4 0 1 = u := by rw [b2.ref]; exact g31
    have c1' : fX9_begin 87 u (gI (pR A4 52 1 u) u 10) (gI (pR A4 52 1 u) u 11) (pR A4 52 1 u) = some A6 := c1
    rw [g31, b1', Option.bind_some, g4, g1, rx_0_9 r5, rx_told r5, c1', Option.bind_some, gR_pI, rx_0_7 r6]
    unfold fX2_forget fX6_forget fX7_empty
    rw [Option.bind_some, show gR (pI (pI A6 0 15 (0 : Int32)) 81 1 (0 : Int32)) 0 8 = 83 from rx_0_8 r6, show gR (pI (pI A6 0 15 (0 : Int32)) 81 1 (0 : Int32)) 83 0 = 84 from rx_83_0 r6, Option.bind_some, Option.bind_some, Option.bind_some, hA7, rx_0_3 r7]
  have w7 : wX A7 87 = wX A6 87 := Fr.wld f7 (fun o j a b hc => by omega)
  have p6 : ∀ o j, ¬ PX 87 o j → gI A6 o j = gI A4 o j := fun o j hp => c3.2 o j hp
  refine ⟨A4, A7, ex, i4, fun j hj => b3 j (Nat.zero_le _) hj, r7, ?_, fun o j hn => ?_, ?_, ?_, ?_, ?_, ?_, ?_, ?_⟩
  · rw [Fr.told f7 (fun o j a b hc => by omega), Fr.told c3 (fun o j a b hc => by unfold PX at hc; omega)]; rfl
  · unfold GX7 at hn
    rw [f7.2 _ _ (fun hp => by omega), p6 _ _ (fun hp => by unfold PX at hp; omega), b2.2 _ _ (fun hp => by omega), iA3]
    by_cases o0 : o = 0
    · subst o0
      rw [← hA2, gI_nek (by omega), gI_nek (by omega)]
    · exact iA2 o j o0
  · rw [w7, c2]
    have e10 : gI (pR A4 52 1 u) u 10 = gI A1 u 10 := i4 u 10 (by omega) (by omega)
    have e11 : gI (pR A4 52 1 u) u 11 = gI A1 u 11 := i4 u 11 (by omega) (by omega)
    rw [e10, e11]; rfl
  · rw [f7.2 _ _ (fun hp => by omega), p6 _ _ (fun hp => by unfold PX at hp; omega), b2.2 _ _ (fun hp => by omega), iA3, ← hA2, gI_nek (by decide), gI_same]
  · rw [f7.2 _ _ (fun hp => by omega), p6 _ _ (fun hp => by unfold PX at hp; omega), b2.2 _ _ (fun hp => by omega), iA3, ← hA2, gI_same]
  · rw [← hA7, gI_neo (by decide), gI_neo (by decide), gI_neo (by decide), gI_same]
  · rw [← hA7, gI_neo (by decide), gI_neo (by decide), gI_same]
  · rw [← hA7, gI_neo (by decide), gI_same]
  · rw [← hA7, gI_same]
