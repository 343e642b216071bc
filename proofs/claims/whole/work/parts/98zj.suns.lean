/-! ===== the class settles its suns ===== -/
theorem fm_S {a b : Int32} {S S' : MS} : fJ9_floorMod_7cf53 a b S = fJ9_floorMod_7cf53 a b S' := rfl
theorem fm_dec : ∀ h, h < 24 → ∀ v, v < 24 → fJ9_floorMod_7cf53 (nI h - nI v) 24 S00 = some (if v ≤ h then nI (h - v) else nI (24 + h - v)) := by decide +kernel
def SRl (hr : Nat → Int32) (h i : Nat) (x2 x3 best last : Int32) : Prop :=
  (best = -1 ∧ last = -1 ∧ x2 = -1 ∧ x3 = 24) ∨
  (∃ b v, b < i ∧ best = nI b ∧ hr b = nI v ∧ v ≤ h ∧ x2 = nI b ∧ x3 = nI (h - v)) ∨
  (best = -1 ∧ ∃ b v, b < i ∧ last = nI b ∧ hr b = nI v ∧ h < v ∧ v < 24 ∧ x2 = nI b ∧ x3 = nI (24 + h - v))
theorem s16s {K2 : Nat → Int32 → MS → Option MS} {m u : Nat} {x1 x2 x3 x4 : Int32} {S : MS} : fX8_settleSuns_16 K2 (m + 1) u x1 x2 x3 x4 S = (if gI S (gR S u 2) 3 ≤ x4 then (if bnd x1 (lnX (gR S u 1)) = true then K2 u (x1 + (1 : Int32)) (pI S (gR S u 1) x1.toNatClampNeg x2) else none) else (fX7_get (gR S u 2) x4 (0 : Int32) S).bind fun q8 => (fJ9_floorMod_7cf53 (x1 - q8) (24 : Int32) S).bind fun q10 => (if x3 ≤ q10 then fX8_settleSuns_16 K2 m u x1 x2 x3 (x4 + (1 : Int32)) S else fX8_settleSuns_16 K2 m u x1 x4 q10 (x4 + (1 : Int32)) S)) := rfl
theorem sunGos {hr : Nat → Int32} {h : Int32} {n i : Nat} {best last : Int32} : sunGo hr h (n + 1) i best last = sunGo hr h n (i + 1) (if hr i ≤ h ∧ (best = -1 ∨ hr best.toNatClampNeg < hr i) then nI i else best) (if last = -1 ∨ hr last.toNatClampNeg < hr i then nI i else last) := rfl
theorem nI_m1 {b : Nat} (h : b < 2 ^ 31) : nI b ≠ -1 := fun e => by
  have := nI_pos' h
  rw [e] at this
  exact absurd this (by decide)
theorem s16_go {K2 : Nat → Int32 → MS → Option MS} {u h k : Nat} {hr : Nat → Int32} {S : MS} (hu : isT u) (g1 : gR S u 1 = u + 2) (g2 : gR S u 2 = u + 3) (hT : TBL S (u + 3) 6 3 k) (hh : h < 24) (hv : ∀ i, i < k → ∃ v, v < 24 ∧ gI S (u + 4) (i * 3 + 0) = nI v ∧ hr i = nI v) :
    ∀ (d i fuel : Nat) (x2 x3 best last : Int32), k = i + d → d < fuel → SRl hr h i x2 x3 best last → fX8_settleSuns_16 K2 fuel u (nI h) x2 x3 (nI i) S = K2 u (nI (h + 1)) (pI S (u + 2) h (sunGo hr (nI h) d i best last)) := by
  have k6 : k ≤ 6 := hT.2.2.2.2.1
  intro d
  induction d with
  | zero =>
    intro i fuel x2 x3 best last hd hf hs
    obtain ⟨m, rfl⟩ : ∃ m, fuel = m + 1 := ⟨fuel - 1, by omega⟩
    have e : x2 = sunGo hr (nI h) 0 i best last := by
      show x2 = if best = -1 then last else best
      rcases hs with ⟨q1, q2, q3, _⟩ | ⟨b, v, q0, q1, _, _, q3, _⟩ | ⟨q1, b, v, q0, q2, _, _, _, q3, _⟩
      · rw [if_pos q1, q2, q3]
      · rw [if_neg (by rw [q1]; exact nI_m1 (by omega)), q1, q3]
      · rw [if_pos q1, q2, q3]
    rw [s16s, g2, hT.2.2.2.1, if_pos ((nI_leI (by omega) (by omega)).mpr (by omega)), g1, lt_2 hu, bnd_nI hh (by decide), if_pos rfl, nI_clamp (by omega), nI_1, ← e]
  | succ d ih =>
    intro i fuel x2 x3 best last hd hf hs
    obtain ⟨m, rfl⟩ : ∃ m, fuel = m + 1 := ⟨fuel - 1, by omega⟩
    obtain ⟨v, v24, ev, hi⟩ := hv i (by omega)
    have eg : fX7_get (u + 3) (nI i) (0 : Int32) S = some (nI v) := by
      have q := X_get (c := 0) (x := nI i) hT (by decide)
      rw [if_pos ⟨nI_pos' (by omega), (nI_ltI (by omega) (by omega)).mpr (by omega)⟩, nI_clamp (by omega)] at q
      have q' : fX7_get (u + 3) (nI i) (0 : Int32) S = some (gI S (u + 4) (i * 3 + 0)) := q
      rw [q', ev]
    rw [s16s, g2, hT.2.2.2.1, if_neg (show ¬ nI k ≤ nI i from fun q => absurd ((nI_leI (by omega) (by omega)).mp q) (by omega)), eg, Option.bind_some, fm_S (S' := S00), fm_dec h hh v v24, Option.bind_some, nI_1, sunGos, hi]
    have ni : ∀ a b : Nat, a < 100 → b < 100 → (nI a ≤ nI b ↔ a ≤ b) := fun a b ha hb => nI_leI (by omega) (by omega)
    have nl : ∀ a b : Nat, a < 100 → b < 100 → (nI a < nI b ↔ a < b) := fun a b ha hb => nI_ltI (by omega) (by omega)
    by_cases c : v ≤ h
    · rw [if_pos c]
      rcases hs with ⟨q1, q2, q3, q4⟩ | ⟨b, y, q0, q1, q2, q3, q4, q5⟩ | ⟨q1, b, y, q0, q2, q3, q4, q5, q6, q7⟩
      · rw [if_pos (show nI v ≤ nI h ∧ (best = -1 ∨ hr best.toNatClampNeg < nI v) from ⟨(ni v h (by omega) (by omega)).mpr c, Or.inl q1⟩), if_neg (show ¬ x3 ≤ nI (h - v) from fun q => by rw [q4] at q; exact absurd ((ni 24 (h - v) (by omega) (by omega)).mp q) (by omega))]
        exact ih (i + 1) m _ _ _ _ (by omega) (by omega) (Or.inr (Or.inl ⟨i, v, by omega, rfl, hi, c, rfl, rfl⟩))
      · have cb : (nI b).toNatClampNeg = b := nI_clamp (by omega)
        by_cases cy : y < v
        · rw [if_pos (show nI v ≤ nI h ∧ (best = -1 ∨ hr best.toNatClampNeg < nI v) from ⟨(ni v h (by omega) (by omega)).mpr c, Or.inr (by rw [q1, cb, q2]; exact (nl y v (by omega) (by omega)).mpr cy)⟩), if_neg (show ¬ x3 ≤ nI (h - v) from fun q => by rw [q5] at q; exact absurd ((ni (h - y) (h - v) (by omega) (by omega)).mp q) (by omega))]
          exact ih (i + 1) m _ _ _ _ (by omega) (by omega) (Or.inr (Or.inl ⟨i, v, by omega, rfl, hi, c, rfl, rfl⟩))
        · rw [if_neg (show ¬ (nI v ≤ nI h ∧ (best = -1 ∨ hr best.toNatClampNeg < nI v)) from fun q => by
            rcases q.2 with w | w
            · rw [q1] at w; exact nI_m1 (by omega) w
            · rw [q1, cb, q2] at w; exact cy ((nl y v (by omega) (by omega)).mp w)), if_pos (show x3 ≤ nI (h - v) by rw [q5]; exact (ni (h - y) (h - v) (by omega) (by omega)).mpr (by omega))]
          exact ih (i + 1) m _ _ _ _ (by omega) (by omega) (Or.inr (Or.inl ⟨b, y, by omega, q1, q2, q3, q4, q5⟩))
      · rw [if_pos (show nI v ≤ nI h ∧ (best = -1 ∨ hr best.toNatClampNeg < nI v) from ⟨(ni v h (by omega) (by omega)).mpr c, Or.inl q1⟩), if_neg (show ¬ x3 ≤ nI (h - v) from fun q => by rw [q7] at q; exact absurd ((ni (24 + h - y) (h - v) (by omega) (by omega)).mp q) (by omega))]
        exact ih (i + 1) m _ _ _ _ (by omega) (by omega) (Or.inr (Or.inl ⟨i, v, by omega, rfl, hi, c, rfl, rfl⟩))
    · rw [if_neg c, if_neg (show ¬ (nI v ≤ nI h ∧ (best = -1 ∨ hr best.toNatClampNeg < nI v)) from fun q => c ((ni v h (by omega) (by omega)).mp q.1))]
      rcases hs with ⟨q1, q2, q3, q4⟩ | ⟨b, y, q0, q1, q2, q3, q4, q5⟩ | ⟨q1, b, y, q0, q2, q3, q4, q5, q6, q7⟩
      · rw [if_pos (show last = -1 ∨ hr last.toNatClampNeg < nI v from Or.inl q2), if_neg (show ¬ x3 ≤ nI (24 + h - v) from fun q => by rw [q4] at q; exact absurd ((ni 24 (24 + h - v) (by omega) (by omega)).mp q) (by omega))]
        exact ih (i + 1) m _ _ _ _ (by omega) (by omega) (Or.inr (Or.inr ⟨q1, i, v, by omega, rfl, hi, by omega, v24, rfl, rfl⟩))
      · rw [if_pos (show x3 ≤ nI (24 + h - v) by rw [q5]; exact (ni (h - y) (24 + h - v) (by omega) (by omega)).mpr (by omega))]
        exact ih (i + 1) m _ _ _ _ (by omega) (by omega) (Or.inr (Or.inl ⟨b, y, by omega, q1, q2, q3, q4, q5⟩))
      · have cb : (nI b).toNatClampNeg = b := nI_clamp (by omega)
        by_cases cy : y < v
        · rw [if_pos (show last = -1 ∨ hr last.toNatClampNeg < nI v from Or.inr (by rw [q2, cb, q3]; exact (nl y v (by omega) (by omega)).mpr cy)), if_neg (show ¬ x3 ≤ nI (24 + h - v) from fun q => by rw [q7] at q; exact absurd ((ni (24 + h - y) (24 + h - v) (by omega) (by omega)).mp q) (by omega))]
          exact ih (i + 1) m _ _ _ _ (by omega) (by omega) (Or.inr (Or.inr ⟨q1, i, v, by omega, rfl, hi, by omega, v24, rfl, rfl⟩))
        · rw [if_neg (show ¬ (last = -1 ∨ hr last.toNatClampNeg < nI v) from fun q => by
            rcases q with w | w
            · rw [q2] at w; exact nI_m1 (by omega) w
            · rw [q2, cb, q3] at w; exact cy ((nl y v (by omega) (by omega)).mp w)), if_pos (show x3 ≤ nI (24 + h - v) by rw [q7]; exact (ni (24 + h - y) (24 + h - v) (by omega) (by omega)).mpr (by omega))]
          exact ih (i + 1) m _ _ _ _ (by omega) (by omega) (Or.inr (Or.inr ⟨q1, b, y, by omega, q2, q3, q4, q5, q6, q7⟩))
theorem s2s {m u : Nat} {x1 : Int32} {S : MS} : fX8_settleSuns_2 (m + 1) u x1 S = (if (24 : Int32) ≤ x1 then some S else fX8_settleSuns_16 (fX8_settleSuns_2 m) 1000 u x1 (-1 : Int32) (24 : Int32) (0 : Int32) S) := rfl
theorem s2_go {u k : Nat} {hr : Nat → Int32} (hu : isT u) : ∀ (d h fuel : Nat) (S : MS), 24 = h + d → d < fuel → gR S u 1 = u + 2 → gR S u 2 = u + 3 → TBL S (u + 3) 6 3 k → (∀ i, i < k → ∃ v, v < 24 ∧ gI S (u + 4) (i * 3 + 0) = nI v ∧ hr i = nI v) →
    ∃ S1, fX8_settleSuns_2 fuel u (nI h) S = some S1 ∧ Fr (fun o j => o = u + 2 ∧ h ≤ j) S S1 ∧ ∀ j, h ≤ j → j < 24 → gI S1 (u + 2) j = sunGo hr (nI j) k 0 (-1) (-1) := by
  intro d
  induction d with
  | zero =>
    intro h fuel S hd hf g1 g2 hT hv
    obtain ⟨m, rfl⟩ : ∃ m, fuel = m + 1 := ⟨fuel - 1, by omega⟩
    have e : h = 24 := by omega
    subst e
    exact ⟨S, by rw [s2s, if_pos (show (24 : Int32) ≤ nI 24 by decide)], Fr.rf, fun c h1 h2 => absurd h1 (by omega)⟩
  | succ d ih =>
    intro h fuel S hd hf g1 g2 hT hv
    obtain ⟨m, rfl⟩ : ∃ m, fuel = m + 1 := ⟨fuel - 1, by omega⟩
    have k6 : k ≤ 6 := hT.2.2.2.2.1
    have e16 := s16_go (K2 := fX8_settleSuns_2 m) hu g1 g2 hT (show h < 24 by omega) hv k 0 1000 (-1) 24 (-1) (-1) (by omega) (by omega) (Or.inl ⟨rfl, rfl, rfl, rfl⟩)
    have e16' : fX8_settleSuns_16 (fX8_settleSuns_2 m) 1000 u (nI h) (-1 : Int32) (24 : Int32) (0 : Int32) S = _ := e16
    rw [s2s, if_neg (show ¬ (24 : Int32) ≤ nI h from fun q => absurd ((nI_leI (show (24 : Nat) < 2 ^ 31 by decide) (show h < 2 ^ 31 by omega)).mp q) (by omega)), e16']
    have g0 : Fr (fun o j => o = u + 2 ∧ h ≤ j) S (pI S (u + 2) h (sunGo hr (nI h) k 0 (-1) (-1))) := Fr.rf.pI ⟨rfl, Nat.le_refl _⟩
    obtain ⟨S1, a1, a2, a3⟩ := ih (h + 1) m (pI S (u + 2) h (sunGo hr (nI h) k 0 (-1) (-1))) (by omega) (by omega) g1 g2 (hT.fr g0 (fun j hp => by omega)) (fun i hi => by
      obtain ⟨v, v1, v2, v3⟩ := hv i hi
      exact ⟨v, v1, by rw [gI_neo (by omega)]; exact v2, v3⟩)
    refine ⟨S1, a1, g0.tr (a2.mo (fun o j hp => ⟨hp.1, by omega⟩)), fun j h1 h2 => ?_⟩
    by_cases ci : j = h
    · rw [ci, a2.2 _ _ (fun hp => by omega), gI_same]
    · exact a3 j (by omega) h2
