/-! ===== the reference takes what it has read: the upper halves go down ===== -/
theorem half7s {m o : Nat} {x1 x2 : Int32} {S : MS} : fX11_half_7 (m + 1) o x1 x2 S = (if x1 ≤ x2 then some S else (if bnd (x1 + x2) (lnM o) = true then (if bnd x2 (lnM o) = true then (fX11_half_7 m) o x1 (x2 + (1 : Int32)) (pI S o x2.toNatClampNeg (gI S o (x1 + x2).toNatClampNeg)) else none) else none)) := rfl
theorem M_half_go {o h : Nat} (hl : lnM o = 2 * h) (h64 : h ≤ 64) : ∀ (d i fuel : Nat) (S : MS), h = i + d → d < fuel → ∃ S1, fX11_half_7 fuel o (nI h) (nI i) S = some S1 ∧ Fr (fun a b => a = o ∧ i ≤ b ∧ b < h) S S1 ∧ ∀ j, i ≤ j → j < h → gI S1 o j = gI S o (h + j) := by
  intro d
  induction d with
  | zero =>
    intro i fuel S hd hf
    obtain ⟨m, rfl⟩ : ∃ m, fuel = m + 1 := ⟨fuel - 1, by omega⟩
    have e : h = i := by omega
    subst e
    exact ⟨S, by rw [half7s, if_pos ((nI_leI (by omega) (by omega)).mpr (Nat.le_refl _))], Fr.rf, fun c h1 h2 => absurd h1 (by omega)⟩
  | succ d ih =>
    intro i fuel S hd hf
    obtain ⟨m, rfl⟩ : ∃ m, fuel = m + 1 := ⟨fuel - 1, by omega⟩
    rw [half7s, if_neg (show ¬ nI h ≤ nI i from fun q => absurd ((nI_leI (show h < 2 ^ 31 by omega) (show i < 2 ^ 31 by omega)).mp q) (by omega)), show nI h + nI i = nI (h + i) from nI_add h i, hl, bnd_nI (by omega) (by omega), if_pos rfl, bnd_nI (by omega) (by omega), if_pos rfl, nI_clamp (by omega), nI_clamp (by omega), nI_1]
    obtain ⟨S1, a1, a2, a3⟩ := ih (i + 1) m (pI S o i (gI S o (h + i))) (by omega) (by omega)
    have g0 : Fr (fun a b => a = o ∧ i ≤ b ∧ b < h) S (pI S o i (gI S o (h + i))) := Fr.rf.pI ⟨rfl, Nat.le_refl _, by omega⟩
    refine ⟨S1, a1, g0.tr (a2.mo (fun a b hp => ⟨hp.1, by omega, hp.2.2⟩)), fun j h1 h2 => ?_⟩
    by_cases ci : j = i
    · rw [ci, a2.2 _ _ (fun hp => by omega), gI_same]
    · rw [a3 j (by omega) h2, gI_nek (by omega)]
theorem hf_dec : ∀ o, o < 25 → 2 ≤ o → lnM o = 2 * hf o ∧ Int32.ofNat (lnM o) / 2 = nI (hf o) ∧ hf o ≤ 64 := by decide +kernel
theorem M_half {o : Nat} {S : MS} (h2 : 2 ≤ o) (h25 : o < 25) : ∃ S1, fX11_half o S = some S1 ∧ Fr (fun a b => a = o ∧ b < hf o) S S1 ∧ ∀ j, j < hf o → gI S1 o j = gI S o (hf o + j) := by
  obtain ⟨e1, e2, e3⟩ := hf_dec o h25 h2
  obtain ⟨S1, a1, a2, a3⟩ := M_half_go e1 e3 (hf o) 0 1000 S (by omega) (by omega)
  refine ⟨S1, ?_, a2.mo (fun a b hp => ⟨hp.1, hp.2.2⟩), fun j hj => a3 j (Nat.zero_le _) hj⟩
  unfold fX11_half
  rw [e2]; exact a1
def HVk (m : Nat) (S0 S : MS) : Prop := Fr (fun o j => 2 ≤ o ∧ o < 2 + m ∧ j < hf o) S0 S ∧ ∀ o, 2 ≤ o → o < 2 + m → ∀ j, j < hf o → gI S o j = gI S0 o (hf o + j)
theorem rM_dec : ∀ m, m < 23 → (3 + m, 2 + m) ∈ rMl := by decide
theorem M_hv {m : Nat} {S0 S : MS} (h : HVk m S0 S) (hM : MR S0) (hm : m < 23) : ∃ S1, fX11_half (gR S 0 (3 + m)) S = some S1 ∧ HVk (m + 1) S0 S1 := by
  obtain ⟨h1, h2⟩ := h
  have hr : gR S 0 (3 + m) = 2 + m := (hM.of h1.1) _ (rM_dec m hm)
  obtain ⟨S1, a1, a2, a3⟩ := M_half (o := 2 + m) (S := S) (by omega) (by omega)
  rw [hr]
  refine ⟨S1, a1, ?_, fun o o1 o2 j hj => ?_⟩
  · have g1 : Fr (fun o j => 2 ≤ o ∧ o < 2 + (m + 1) ∧ j < hf o) S0 S := h1.mo (fun o j hp => ⟨hp.1, by omega, hp.2.2⟩)
    exact g1.tr (a2.mo (fun o j hp => by obtain ⟨rfl, hp⟩ := hp; exact ⟨by omega, by omega, hp⟩))
  · by_cases c : o = 2 + m
    · subst c
      rw [a3 j hj, h1.2 _ _ (fun hp => by omega)]
    · rw [a2.2 _ _ (fun hp => c hp.1)]
      exact h2 o o1 (by omega) j hj
theorem M_halves {S : MS} (hM : MR S) (z : gI S 0 34 = 0) (w : gI S 0 35 = -1) :
    ∃ S1, fX11_text_153 0 S = (fX11_begins 0 (pI (pI (pI (pI S1 0 66 (0 : Int32)) 0 67 (-1 : Int32)) 0 55 (0 : Int32)) 0 56 (0 : Int32))).bind (fun q71 => some (gI q71 0 28, q71)) ∧ HVk 23 (pI (pI S 0 36 0) 0 37 (-1)) S1 := by
  unfold fX11_text_153
  rw [z, gI_nek (show (35 : Nat) ≠ 36 by decide), w, if_pos (by rw [gI_nek (by decide), gI_nek (by decide)]; exact z)]
  generalize hS0 : pI (pI S 0 36 (0 : Int32)) 0 37 (-1 : Int32) = S0
  have r0 : MR S0 := by rw [← hS0]; exact hM.of rfl
  have v0 : HVk 0 S0 S0 := ⟨Fr.rf, fun o o1 o2 => absurd o2 (by omega)⟩
  obtain ⟨S1, a1, v1⟩ := M_hv v0 r0 (by decide)
  rw [show fX11_half (gR S0 0 3) S0 = some S1 from a1, Option.bind_some]
  obtain ⟨S2, a2, v2⟩ := M_hv v1 r0 (by decide)
  rw [show fX11_half (gR S1 0 4) S1 = some S2 from a2, Option.bind_some]
  obtain ⟨S3, a3, v3⟩ := M_hv v2 r0 (by decide)
  rw [show fX11_half (gR S2 0 5) S2 = some S3 from a3, Option.bind_some]
  obtain ⟨S4, a4, v4⟩ := M_hv v3 r0 (by decide)
  rw [show fX11_half (gR S3 0 6) S3 = some S4 from a4, Option.bind_some]
  obtain ⟨S5, a5, v5⟩ := M_hv v4 r0 (by decide)
  rw [show fX11_half (gR S4 0 7) S4 = some S5 from a5, Option.bind_some]
  obtain ⟨S6, a6, v6⟩ := M_hv v5 r0 (by decide)
  rw [show fX11_half (gR S5 0 8) S5 = some S6 from a6, Option.bind_some]
  obtain ⟨S7, a7, v7⟩ := M_hv v6 r0 (by decide)
  rw [show fX11_half (gR S6 0 9) S6 = some S7 from a7, Option.bind_some]
  obtain ⟨S8, a8, v8⟩ := M_hv v7 r0 (by decide)
  rw [show fX11_half (gR S7 0 10) S7 = some S8 from a8, Option.bind_some]
  obtain ⟨S9, a9, v9⟩ := M_hv v8 r0 (by decide)
  rw [show fX11_half (gR S8 0 11) S8 = some S9 from a9, Option.bind_some]
  obtain ⟨S10, a10, v10⟩ := M_hv v9 r0 (by decide)
  rw [show fX11_half (gR S9 0 12) S9 = some S10 from a10, Option.bind_some]
  obtain ⟨S11, a11, v11⟩ := M_hv v10 r0 (by decide)
  rw [show fX11_half (gR S10 0 13) S10 = some S11 from a11, Option.bind_some]
  obtain ⟨S12, a12, v12⟩ := M_hv v11 r0 (by decide)
  rw [show fX11_half (gR S11 0 14) S11 = some S12 from a12, Option.bind_some]
  obtain ⟨S13, a13, v13⟩ := M_hv v12 r0 (by decide)
  rw [show fX11_half (gR S12 0 15) S12 = some S13 from a13, Option.bind_some]
  obtain ⟨S14, a14, v14⟩ := M_hv v13 r0 (by decide)
  rw [show fX11_half (gR S13 0 16) S13 = some S14 from a14, Option.bind_some]
  obtain ⟨S15, a15, v15⟩ := M_hv v14 r0 (by decide)
  rw [show fX11_half (gR S14 0 17) S14 = some S15 from a15, Option.bind_some]
  obtain ⟨S16, a16, v16⟩ := M_hv v15 r0 (by decide)
  rw [show fX11_half (gR S15 0 18) S15 = some S16 from a16, Option.bind_some]
  obtain ⟨S17, a17, v17⟩ := M_hv v16 r0 (by decide)
  rw [show fX11_half (gR S16 0 19) S16 = some S17 from a17, Option.bind_some]
  obtain ⟨S18, a18, v18⟩ := M_hv v17 r0 (by decide)
  rw [show fX11_half (gR S17 0 20) S17 = some S18 from a18, Option.bind_some]
  obtain ⟨S19, a19, v19⟩ := M_hv v18 r0 (by decide)
  rw [show fX11_half (gR S18 0 21) S18 = some S19 from a19, Option.bind_some]
  obtain ⟨S20, a20, v20⟩ := M_hv v19 r0 (by decide)
  rw [show fX11_half (gR S19 0 22) S19 = some S20 from a20, Option.bind_some]
  obtain ⟨S21, a21, v21⟩ := M_hv v20 r0 (by decide)
  rw [show fX11_half (gR S20 0 23) S20 = some S21 from a21, Option.bind_some]
  obtain ⟨S22, a22, v22⟩ := M_hv v21 r0 (by decide)
  rw [show fX11_half (gR S21 0 24) S21 = some S22 from a22, Option.bind_some]
  obtain ⟨S23, a23, v23⟩ := M_hv v22 r0 (by decide)
  rw [show fX11_half (gR S22 0 25) S22 = some S23 from a23, Option.bind_some]
  exact ⟨S23, rfl, v23⟩
