/-! ===== a text that is not taken: all stays but the fault ===== -/
theorem Iv.refs {t : Nat} {T : TT} {S S' SM : MS} (h : Iv t T S SM) (e : S'.1 = S.1) (hr : RX t S') : Iv t T S' SM := by
  obtain ⟨i, r, l⟩ := S
  obtain ⟨i', r', l'⟩ := S'
  have e' : i' = i := e
  subst e'
  obtain ⟨⟨⟨_, h2⟩, h3⟩, h4⟩ := h
  exact ⟨⟨⟨hr, h2⟩, h3⟩, h4⟩
def TXF (u o j : Nat) : Prop := PD u o j ∨ (o = 48 ∧ j = 3) ∨ (o = 0 ∧ 12 ≤ j ∧ j ≤ 14)
def TMF (o j : Nat) : Prop := BGM o j ∨ (o = 0 ∧ (j = 36 ∨ j = 37))
theorem TXF_r {u o j : Nat} (h : TXF u o j) : (o = 0 ∧ 12 ≤ j ∧ j ≤ 14) ∨ (u ≤ o ∧ o ≤ u + 22) ∨ (o = 48 ∧ 3 ≤ j) ∨ o = 50 := by
  rcases h with (⟨rfl, h⟩ | rfl | ⟨rfl, h⟩ | rfl | ⟨h1, h2, _⟩ | ⟨h1, h2⟩) | ⟨rfl, rfl⟩ | h
  · omega
  · omega
  · omega
  · omega
  · omega
  · omega
  · omega
  · exact Or.inl h
theorem TMF_r {o j : Nat} (h : TMF o j) : (o = 0 ∧ (j = 0 ∨ j = 2 ∨ (26 ≤ j ∧ j ≤ 39))) ∨ (2 ≤ o ∧ o ≤ 24 ∧ hf o ≤ j) := by
  rcases h with (h | ⟨rfl, h⟩) | ⟨rfl, h⟩
  · by_cases c : o = 0
    · left
      refine ⟨c, ?_⟩
      subst c
      rcases h with ⟨_, h⟩ | h | h | h | h | h | h | h | h | h <;> omega
    · right
      have r : 2 ≤ o ∧ o ≤ 24 := by rcases h with h | h | h | h | h | h | h | h | h | h <;> omega
      exact ⟨r.1, r.2, QFM_hi h r.1 (by omega)⟩
  · omega
  · omega
theorem kTXF {u : Nat} (hu : isT u) : ∀ q ∈ kXl, ¬ TXF u q.1 q.2.1 := by
  intro q hq hp
  rcases hp with hp | hp | hp
  · exact kPD hu q hq hp
  · exact absurd hp ((by decide : ∀ q ∈ kXl, ¬ (q.1 = 48 ∧ q.2.1 = 3)) q hq)
  · exact absurd hp.1 ((by decide : ∀ q ∈ kXl, ¬ (q.1 = 0)) q hq)
theorem Iv.keep {t : Nat} {T : TT} {SX SM S1 M1 : MS} (h : Iv t T SX SM) (fx : Fr (TXF (27 - t)) SX S1) (fm : Fr TMF SM M1) (x12 : gI S1 0 12 = 0) (m2 : gI M1 0 2 = 0) (ft : FT S1 M1) : Iv t T S1 M1 := by
  obtain ⟨⟨⟨h1, h2, h3, h4, h5⟩, hM, ex, em, hW, h57, hE⟩, hN, hI, hL, hS, _, _⟩ := h
  have ht := h1.1
  have ht' := ht
  unfold isT at ht'
  have hu : isT (27 - t) := by unfold isT; omega
  have hp : ∀ o j, t ≤ o → o < t + 23 → ¬ TXF (27 - t) o j := fun o j a b hc => by have := TXF_r hc; omega
  have lo : ∀ o j, 2 ≤ o → o < 25 → j < hf o → gI M1 o j = gI SM o j := fun o j a b c => fm.2 _ _ (fun hc => by have := TMF_r hc; omega)
  have w0 : wM M1 0 = wM SM 0 := wM_same (fun k a b => fm.2 _ _ (fun hc => by have := TMF_r hc; omega)) (fun o j a b c d => fm.2 _ _ (fun hc => by have := TMF_r hc; omega))
  refine ⟨⟨⟨h1.of fx.1, h2.fr fx (kTXF hu), ?_, ?_, ?_⟩, hM.lo fm.1 lo, (Fr.told fx hp).trans ex, (tM_lo lo (by rw [em]; exact hW.1) hM.2.1 hM.2.2).trans em, hW, ?_, hE⟩, ?_, hI.fr (fx.mo (fun o j hc => ?_)) (fm.mo (fun o j hc => ?_)), hL.fr (fx.mo (fun o j hc => ?_)) (fm.mo (fun o j hc => ?_)) (fun f _ => by rw [w0]), hS.fr (fx.mo (fun o j hc => ?_)) (fm.mo (fun o j hc => ?_)), ⟨0, by decide, x12, m2, fun k hk => absurd hk (Nat.not_lt_zero _)⟩, ft⟩
  · rw [fx.2 _ _ (hp _ _ (by omega) (by omega))]; exact h3
  · rw [fx.2 _ _ (hp _ _ (by omega) (by omega))]; exact h4
  · rw [fx.2 _ _ (hp _ _ (by omega) (by omega))]; exact h5
  · rw [fm.2 _ _ (fun hc => by have := TMF_r hc; omega)]; exact h57
  · unfold NW
    rw [w0, Fr.wld fx (fun o j a b hc => by have := TXF_r hc; omega)]
    exact hN
  · have := TXF_r hc; unfold iX; omega
  · have := TMF_r hc; unfold iM; omega
  · have := TXF_r hc; unfold lX; omega
  · have := TMF_r hc; unfold lM; omega
  · have := TXF_r hc; unfold sX; omega
  · have := TMF_r hc; unfold sM; omega
theorem text_bad {t n : Nat} {bt : Nat → Nat} {T : TT} {SX SM A B A1 B1 : MS} (h : Iv t T SX SM) (bx : BGX (27 - t) SX A) (bm : Fr BGM SM B) (x12 : gI A 0 12 = 0) (m2 : gI B 0 2 = 0) (qx : QFX (27 - t) A A1) (qm : Fr QFM B B1) (jf : JF t n bt A1 B1) :
    ∃ qX qM, fX10_text_66 0 A1 = some qX ∧ fX11_text_153 0 B1 = some qM ∧ qX.1 = qM.1 ∧ Inv qX.2 qM.2 := by
  obtain ⟨f, w, x, m, z, p⟩ := jf
  have r3 : gR A1 0 3 = 48 := rx_0_3 x.1.1
  have ht := h.1.1.1.1
  unfold isT at ht
  have eX : fX10_text_66 0 A1 = some ((-1 : Int32), pI (pI A1 0 13 f) 0 14 w) := by
    unfold fX10_text_66 fX10_text_88
    rw [r3, gR_pI, r3, x.2.1, gI_neo (show (48 : Nat) ≠ 0 by decide), x.2.2.2.1, if_neg (by rw [gI_nek (by decide), gI_same]; exact x.2.2.1)]
  have eM : fX11_text_153 0 B1 = some ((-1 : Int32), pI (pI B1 0 36 f) 0 37 w) := by
    unfold fX11_text_153
    rw [z, gI_nek (show (35 : Nat) ≠ 36 by decide), p, if_neg (by rw [gI_nek (by decide), gI_nek (by decide), z]; exact x.2.2.1)]
  refine ⟨_, _, eX, eM, rfl, t, T, ?_⟩
  have ix : ∀ o j, ¬ TXF (27 - t) o j → gI (pI (pI A1 0 13 f) 0 14 w) o j = gI SX o j := fun o j hn => by
    have e1 : gI (pI (pI A1 0 13 f) 0 14 w) o j = gI A1 o j := by
      by_cases c : o = 0
      · subst c
        rw [gI_nek (fun e => hn (Or.inr (Or.inr ⟨rfl, by omega, by omega⟩))), gI_nek (fun e => hn (Or.inr (Or.inr ⟨rfl, by omega, by omega⟩)))]
      · rw [gI_neo c, gI_neo c]
    rw [e1, qx.2 o j (fun hp => hn (Or.inl hp)), bx.2 o j (fun hp => hn (by
      rcases hp with hp | hp | hp
      · exact Or.inl hp
      · exact Or.inr (Or.inl hp)
      · exact Or.inr (Or.inr ⟨hp.1, by omega, by omega⟩)))]
  have rx : ∀ o j, ¬ (o = 48 ∧ (j = 2 ∨ j = 9 ∨ j = 10)) → gR (pI (pI A1 0 13 f) 0 14 w) o j = gR SX o j := fun o j hn => by
    rw [gR_pI, gR_pI, qx.1 o j (fun hp => hn ⟨hp.1, by omega⟩)]; exact bx.1 o j hn
  have fx : Fr (TXF (27 - t)) SX ((pI (pI A1 0 13 f) 0 14 w).1, SX.2.1, (pI (pI A1 0 13 f) 0 14 w).2.2) := ⟨rfl, fun o j hn => ix o j hn⟩
  have fm : Fr TMF SM (pI (pI B1 0 36 f) 0 37 w) := by
    have g : Fr TMF SM B1 := (bm.tr (qm.mo (fun o j hp => Or.inl hp))).mo (fun o j hp => Or.inl hp)
    exact (g.pI (Or.inr ⟨rfl, Or.inl rfl⟩)).pI (Or.inr ⟨rfl, Or.inr rfl⟩)
  have c12 : gI (pI (pI A1 0 13 f) 0 14 w) 0 12 = 0 := by
    rw [gI_nek (by decide), gI_nek (by decide), qx.2 _ _ (fun hp => by unfold PD at hp; omega)]; exact x12
  have c2 : gI (pI (pI B1 0 36 f) 0 37 w) 0 2 = 0 := by
    rw [gI_nek (by decide), gI_nek (by decide), qm.2 _ _ (fun hp => by unfold QFM at hp; omega)]; exact m2
  have ft : FT (pI (pI A1 0 13 f) 0 14 w) (pI (pI B1 0 36 f) 0 37 w) := ⟨by rw [gI_nek (by decide), gI_same, gI_nek (by decide), gI_same], by rw [gI_same, gI_same]⟩
  exact (h.keep fx fm c12 c2 ft).refs rfl (h.1.1.1.rs rx)
