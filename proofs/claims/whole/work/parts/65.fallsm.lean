/-! ===== it falls, in the reference ===== -/
theorem l_le {a b : Int64} : a ≤ b ↔ a.toInt ≤ b.toInt := Int64.le_iff_toInt_le
theorem l_lt {a b : Int64} : a < b ↔ a.toInt < b.toInt := Int64.lt_iff_toInt_lt
theorem l_i {x : Int64} (h1 : -2147483648 ≤ x.toInt) (h2 : x.toInt < 2147483648) : x.toInt32.toInt = x.toInt := by
  rw [Int64.toInt_toInt32]; simp only [Int.bmod_def]; omega
theorem wthn_rng {l : List Int32} {nm : Nat → Int32} {most far m : Int32} (h0 : 0 ≤ most) (h1 : most ≤ m) (h2 : 0 ≤ far) (h3 : far ≤ m) (hm : m ≤ 1000) : 0 ≤ wthn l nm most far ∧ wthn l nm most far ≤ m := by
  have hb : ∀ z : Int64, 0 ≤ z.toInt → z.toInt ≤ most.toInt → 0 ≤ z.toInt32 ∧ z.toInt32 ≤ m := by
    intro z a b
    have r := i_rng most
    have e := l_i (x := z) (by omega) (by omega)
    rw [i_le] at h1
    rw [i_le, i_le, e]
    exact ⟨a, by omega⟩
  have em : most.toInt64.toInt = most.toInt := Int32.toInt_toInt64 most
  have h0' : 0 ≤ most.toInt := i_le.mp h0
  have z0 : (0 : Int64).toInt = 0 := rfl
  unfold wthn
  by_cases c0 : lawV l nm = ERR
  · rw [if_pos c0]; exact ⟨h2, h3⟩
  · rw [if_neg c0]
    generalize lawV l nm = v
    by_cases c1 : v < most.toInt64
    · rw [if_pos c1]
      rw [l_lt, em] at c1
      by_cases c2 : v < 0
      · rw [if_pos c2]; exact hb 0 (by omega) (by omega)
      · rw [if_neg c2]
        rw [l_lt] at c2
        exact hb v (by omega) (by omega)
    · rw [if_neg c1]
      by_cases c2 : most.toInt64 < 0
      · rw [if_pos c2]; exact hb 0 (by omega) (by omega)
      · rw [if_neg c2]; exact hb _ (by omega) (by omega)
set_option maxRecDepth 100000 in
theorem cs0_d : ∀ R, R < 9 → ∀ r, r < R → ∀ x, x < 17 → 0 ≤ clampS (nI r + nI x * -1) (nI R - 1) ∧ clampS (nI r + nI x * -1) (nI R - 1) < nI R ∧ clampS (nI r + (nI x + 1) * -1) (nI R - 1) = (if clampS (nI r + nI x * -1) (nI R - 1) + -1 < 0 then clampS (nI r + nI x * -1) (nI R - 1) else clampS (nI r + nI x * -1) (nI R - 1) + -1) := by decide +kernel
set_option maxRecDepth 100000 in
theorem cs1_d : ∀ R, R < 9 → ∀ r, r < R → ∀ x, x < 17 → 0 ≤ clampS (nI r + nI x * 1) (nI R - 1) ∧ clampS (nI r + nI x * 1) (nI R - 1) < nI R ∧ clampS (nI r + (nI x + 1) * 1) (nI R - 1) = (if nI R ≤ clampS (nI r + nI x * 1) (nI R - 1) + 1 then clampS (nI r + nI x * 1) (nI R - 1) else clampS (nI r + nI x * 1) (nI R - 1) + 1) := by decide +kernel
set_option maxRecDepth 100000 in
theorem cs2_d : ∀ R, R < 9 → ∀ r, r < R → ∀ x, x < 17 → clampS (nI r + nI x * 0) (nI R - 1) = nI r := by decide +kernel
/-- a step to and fro at the edge -/
theorem e_dn {z R : Int32} (h1 : 0 ≤ z) (h2 : z < R) (hR : R ≤ 8) : ¬ R ≤ z + -1 := by grind
theorem e_up {z R : Int32} (h1 : 0 ≤ z) (h2 : z < R) (hR : R ≤ 8) : ¬ z + 1 < 0 := by grind
theorem sml {r R : Int32} (h1 : 0 ≤ r) (h2 : r < R) (hR : R ≤ 8) : ∃ a b : Nat, b < 9 ∧ a < b ∧ r = nI a ∧ R = nI b := by
  obtain ⟨a, ha, rfl⟩ := nI_of (Int32.not_lt.mpr h1)
  obtain ⟨b, hb, rfl⟩ := nI_of (Int32.not_lt.mpr (Int32.le_trans h1 (Int32.le_of_lt h2)))
  rw [nI_ltI ha hb] at h2
  rw [show (8 : Int32) = nI 8 from rfl, nI_leI hb (by decide)] at hR
  exact ⟨a, b, by omega, h2, rfl, rfl⟩
theorem add0 {x : Int32} : x + 0 = x := by grind
theorem fall_step {T : TT} {x : Nat} {r c way : Int32} (hx2 : x < 17) (hp : 0 ≤ r ∧ r < sc T 8 ∧ 0 ≤ c ∧ c < sc T 9) (hD : WD T) (hy : way = 0 ∨ way = 1 ∨ way = 2 ∨ way = 3) :
    (cellB T (clampS (r + nI x * dnB way) (sc T 8 - 1) + dnB way) (clampS (c + nI x * rtB way) (sc T 9 - 1) + rtB way) = true → clampS (r + (nI x + 1) * dnB way) (sc T 8 - 1) = clampS (r + nI x * dnB way) (sc T 8 - 1) + dnB way ∧ clampS (c + (nI x + 1) * rtB way) (sc T 9 - 1) = clampS (c + nI x * rtB way) (sc T 9 - 1) + rtB way) ∧
    (cellB T (clampS (r + nI x * dnB way) (sc T 8 - 1) + dnB way) (clampS (c + nI x * rtB way) (sc T 9 - 1) + rtB way) = false → clampS (r + (nI x + 1) * dnB way) (sc T 8 - 1) = clampS (r + nI x * dnB way) (sc T 8 - 1) ∧ clampS (c + (nI x + 1) * rtB way) (sc T 9 - 1) = clampS (c + nI x * rtB way) (sc T 9 - 1)) := by
  obtain ⟨p1, p2, p3, p4⟩ := hp
  obtain ⟨d1, d2, d3, d4⟩ := hD
  unfold cellB
  generalize sc T 8 = R at p2 d1 d2
  generalize sc T 9 = C at p4 d3 d4
  obtain ⟨a, b, hb, hab, rfl, rfl⟩ := sml p1 p2 d2
  obtain ⟨a', b', hb', hab', rfl, rfl⟩ := sml p3 p4 d4
  have ez : ∀ a b, b < 9 → a < b → clampS (nI a + (nI x + 1) * 0) (nI b - 1) = nI a := fun a b h1 h2 => by
    rw [show (nI x + 1) * 0 = nI x * 0 from by grind]; exact cs2_d b h1 a h2 x hx2
  have dnc : ∀ z c R C : Int32, 0 ≤ z → z < R → R ≤ 8 → 0 ≤ c → c < C → (decide (¬ z + -1 < 0 ∧ ¬ R ≤ z + -1 ∧ ¬ c < 0 ∧ ¬ C ≤ c) = decide (¬ z + -1 < 0)) := fun z c R C h1 h2 h3 h4 h5 => by
    have := e_dn h1 h2 h3
    simp [this, Int32.not_lt.mpr h4, Int32.not_le.mpr h5]
  have upc : ∀ z c R C : Int32, 0 ≤ z → z < R → R ≤ 8 → 0 ≤ c → c < C → (decide (¬ z + 1 < 0 ∧ ¬ R ≤ z + 1 ∧ ¬ c < 0 ∧ ¬ C ≤ c) = decide (¬ R ≤ z + 1)) := fun z c R C h1 h2 h3 h4 h5 => by
    have := e_up h1 h2 h3
    simp only [this, Int32.not_lt.mpr h4, Int32.not_le.mpr h5, not_false_eq_true, true_and, and_true]
  have dnc' : ∀ z c R C : Int32, 0 ≤ z → z < R → R ≤ 8 → 0 ≤ c → c < C → (decide (¬ c < 0 ∧ ¬ C ≤ c ∧ ¬ z + -1 < 0 ∧ ¬ R ≤ z + -1) = decide (¬ z + -1 < 0)) := fun z c R C h1 h2 h3 h4 h5 => by
    have := e_dn h1 h2 h3
    simp only [this, Int32.not_lt.mpr h4, Int32.not_le.mpr h5, not_false_eq_true, true_and, and_true]
  have upc' : ∀ z c R C : Int32, 0 ≤ z → z < R → R ≤ 8 → 0 ≤ c → c < C → (decide (¬ c < 0 ∧ ¬ C ≤ c ∧ ¬ z + 1 < 0 ∧ ¬ R ≤ z + 1) = decide (¬ R ≤ z + 1)) := fun z c R C h1 h2 h3 h4 h5 => by
    have := e_up h1 h2 h3
    simp only [this, Int32.not_lt.mpr h4, Int32.not_le.mpr h5, not_false_eq_true, true_and, and_true]
  rcases hy with rfl | rfl | rfl | rfl
  · rw [show dnB 0 = -1 from rfl, show rtB 0 = 0 from rfl, ez a' b' hb' hab', cs2_d b' hb' a' hab' x hx2, add0]
    obtain ⟨q1, q2, q3⟩ := cs0_d b hb a hab x hx2
    rw [q3]
    generalize clampS (nI a + nI x * -1) (nI b - 1) = z at q1 q2
    rw [dnc z (nI a') (nI b) (nI b') q1 q2 d2 p3 p4]
    constructor
    · intro hh; exact ⟨if_neg (of_decide_eq_true hh), rfl⟩
    · intro hh; exact ⟨if_pos (Classical.not_not.mp (of_decide_eq_false hh)), rfl⟩
  · rw [show dnB 1 = 0 from rfl, show rtB 1 = 1 from rfl, ez a b hb hab, cs2_d b hb a hab x hx2, add0]
    obtain ⟨q1, q2, q3⟩ := cs1_d b' hb' a' hab' x hx2
    rw [q3]
    generalize clampS (nI a' + nI x * 1) (nI b' - 1) = z at q1 q2
    rw [upc' z (nI a) (nI b') (nI b) q1 q2 d4 p1 p2]
    constructor
    · intro hh; exact ⟨rfl, if_neg (of_decide_eq_true hh)⟩
    · intro hh; exact ⟨rfl, if_pos (Classical.not_not.mp (of_decide_eq_false hh))⟩
  · rw [show dnB 2 = 1 from rfl, show rtB 2 = 0 from rfl, ez a' b' hb' hab', cs2_d b' hb' a' hab' x hx2, add0]
    obtain ⟨q1, q2, q3⟩ := cs1_d b hb a hab x hx2
    rw [q3]
    generalize clampS (nI a + nI x * 1) (nI b - 1) = z at q1 q2
    rw [upc z (nI a') (nI b) (nI b') q1 q2 d2 p3 p4]
    constructor
    · intro hh; exact ⟨if_neg (of_decide_eq_true hh), rfl⟩
    · intro hh; exact ⟨if_pos (Classical.not_not.mp (of_decide_eq_false hh)), rfl⟩
  · rw [show dnB 3 = 0 from rfl, show rtB 3 = -1 from rfl, ez a b hb hab, cs2_d b hb a hab x hx2, add0]
    obtain ⟨q1, q2, q3⟩ := cs0_d b' hb' a' hab' x hx2
    rw [q3]
    generalize clampS (nI a' + nI x * -1) (nI b' - 1) = z at q1 q2
    rw [dnc' z (nI a) (nI b') (nI b) q1 q2 d4 p1 p2]
    constructor
    · intro hh; exact ⟨rfl, if_neg (of_decide_eq_true hh)⟩
    · intro hh; exact ⟨rfl, if_pos (Classical.not_not.mp (of_decide_eq_false hh))⟩
def PF (o j : Nat) : Prop := o = 0 ∧ 58 ≤ j ∧ j ≤ 61
theorem PF_M {r : Nat} : ∀ o j, PF o j → PM r o j := fun o j h => Or.inl ⟨h.1, Or.inr h.2⟩
theorem PF_t : ∀ o j, 2 ≤ o → o < 25 → ¬ PF o j := fun o j h1 _ h => by have := h.1; omega
theorem PF_w : ∀ o j, 27 ≤ o → o < 39 → ¬ PF o j := fun o j h1 _ h => by have := h.1; omega
theorem M_fb_go {r N : Nat} {way : Int32} {S0 : MS} (hD : WD (tM S0)) (hr : r < 23) (hp : WP (tM S0) (wM S0 r)) (hN : N ≤ 16) (hy : way = 0 ∨ way = 1 ∨ way = 2 ∨ way = 3) : ∀ (d i fuel : Nat) (S : MS), N = i + d → d < fuel → MR S → Fr PF S0 S → gI S 0 58 = clampS (wM S0 r 4 + nI i * dnB way) (sc (tM S0) 8 - 1) → gI S 0 59 = clampS (wM S0 r 5 + nI i * rtB way) (sc (tM S0) 9 - 1) →
    ∃ S1, fX11_fallsBy_23 fuel 0 (nI r) way (nI N) (nI i) S = some S1 ∧ Fr PF S0 S1 ∧ gI S1 0 58 = clampS (wM S0 r 4 + nI N * dnB way) (sc (tM S0) 8 - 1) ∧ gI S1 0 59 = clampS (wM S0 r 5 + nI N * rtB way) (sc (tM S0) 9 - 1) ∧ gI S1 0 60 = b2i (decide (wM S0 r 4 = gI S1 0 58 ∧ wM S0 r 5 = gI S1 0 59)) := by
  intro d
  induction d with
  | zero =>
    intro i fuel S e1 e2 hM hF h58 h59
    obtain ⟨f, rfl⟩ : ∃ f, fuel = f + 1 := ⟨fuel - 1, by omega⟩
    have e4 : gI S 30 r = wM S0 r 4 := by rw [hF.2 _ _ (fun hq => by have := hq.1; omega)]; rfl
    have e5 : gI S 31 r = wM S0 r 5 := by rw [hF.2 _ _ (fun hq => by have := hq.1; omega)]; rfl
    rw [Nat.add_zero] at e1
    subst e1
    unfold fX11_fallsBy_23
    rw [if_pos (Int32.le_refl _), mr_46 hM, mr_47 hM, lm_30, lm_31, bnd_nI hr (by decide), if_pos rfl, if_pos rfl, nI_clamp (by omega), e4, e5]
    generalize hA : gI S 0 58 = A at h58
    generalize hB : gI S 0 59 = B at h59
    have k60 : ∀ v : Int32, gI (pI S 0 60 v) 0 58 = A ∧ gI (pI S 0 60 v) 0 59 = B ∧ gI (pI S 0 60 v) 0 60 = v ∧ Fr PF S0 (pI S 0 60 v) := fun v => ⟨by rw [gI_nek (by decide)]; exact hA, by rw [gI_nek (by decide)]; exact hB, gI_same, hF.pI ⟨rfl, by decide, by decide⟩⟩
    by_cases c1 : A = wM S0 r 4
    · rw [if_pos c1]
      by_cases c2 : B = wM S0 r 5
      · rw [if_pos c2]
        obtain ⟨a1, a2, a3, a4⟩ := k60 1
        refine ⟨_, rfl, a4, a1.trans h58, a2.trans h59, ?_⟩
        rw [a1, a2, a3, c1, c2]; simp [b2i]
      · rw [if_neg c2]
        obtain ⟨a1, a2, a3, a4⟩ := k60 0
        refine ⟨_, rfl, a4, a1.trans h58, a2.trans h59, ?_⟩
        rw [a1, a2, a3, decide_eq_false (fun hh : wM S0 r 4 = A ∧ wM S0 r 5 = B => c2 hh.2.symm)]; rfl
    · rw [if_neg c1]
      obtain ⟨a1, a2, a3, a4⟩ := k60 0
      refine ⟨_, rfl, a4, a1.trans h58, a2.trans h59, ?_⟩
      rw [a1, a2, a3, decide_eq_false (fun hh : wM S0 r 4 = A ∧ wM S0 r 5 = B => c1 hh.1.symm)]; rfl
  | succ d ih =>
    intro i fuel S e1 e2 hM hF h58 h59
    obtain ⟨f, rfl⟩ : ∃ f, fuel = f + 1 := ⟨fuel - 1, by omega⟩
    unfold fX11_fallsBy_23 fX11_fallsBy_84
    have hin : ¬ nI N ≤ nI i := by rw [nI_leI (by omega) (by omega)]; omega
    have et : tM S = tM S0 := Fr.toldM hF PF_t
    rw [if_neg hin, M_dn, Option.bind_some, M_rt, Option.bind_some, M_isCell hM, Option.bind_some, et, nI_1]
    have fs := fall_step (T := tM S0) (x := i) (way := way) (by omega) hp hD hy
    rw [nI_1, ← h58, ← h59] at fs
    cases hc : cellB (tM S0) (gI S 0 58 + dnB way) (gI S 0 59 + rtB way) with
    | false =>
      rw [if_pos (show b2i false = 0 from rfl)]
      obtain ⟨a1, a2⟩ := fs.2 hc
      exact ih (i + 1) f S (by omega) (by omega) hM hF a1.symm a2.symm
    | true =>
      rw [if_neg (by decide), Option.bind_some, M_rt, Option.bind_some, gI_nek (by decide)]
      obtain ⟨a1, a2⟩ := fs.1 hc
      refine ih (i + 1) f _ (by omega) (by omega) (hM.of rfl) ((hF.pI ⟨rfl, by decide, by decide⟩).pI ⟨rfl, by decide, by decide⟩) ?_ ?_
      · rw [gI_nek (by decide), gI_same]; exact a1.symm
      · rw [gI_same]; exact a2.symm
theorem wayS_r (a b : Int32) : wayS a b = 0 ∨ wayS a b = 1 ∨ wayS a b = 2 ∨ wayS a b = 3 := by
  unfold wayS; split <;> split <;> simp
theorem i3_r {x : Int32} (h1 : 0 ≤ x) (h2 : x ≤ 3) : x = 0 ∨ x = 1 ∨ x = 2 ∨ x = 3 := by
  obtain ⟨k, hk, rfl⟩ := nI_of (Int32.not_lt.mpr h1)
  rw [show (3 : Int32) = nI 3 from rfl, nI_leI hk (by decide)] at h2
  rcases (by omega : k = 0 ∨ k = 1 ∨ k = 2 ∨ k = 3) with rfl | rfl | rfl | rfl
  · exact Or.inl rfl
  · exact Or.inr (Or.inl rfl)
  · exact Or.inr (Or.inr (Or.inl rfl))
  · exact Or.inr (Or.inr (Or.inr rfl))
theorem iabs16 {a b : Int32} (ha : -8 ≤ a) (ha2 : a ≤ 8) (hb : -8 ≤ b) (hb2 : b ≤ 8) : 0 ≤ iabs a + iabs b ∧ iabs a + iabs b ≤ 16 := by unfold iabs; grind
theorem i716 {x : Int32} (h : x ≤ 7) : x ≤ 16 := by grind
/-- the light's way is one, and it isn't far -/
theorem light_rng {T : TT} {w : Nat → Int32} {s : Int32} (hD : WD T) (hL : WL T) (hp : WP T w) (h31 : nq T 0 ≤ 6 ∧ nq T 1 ≤ 4) (hs : s = -1 ∨ ∃ i, i < nq T 0 ∧ s = nI i) :
    0 ≤ (lightS T w s).2 ∧ (lightS T w s).2 ≤ 16 ∧ ((lightS T w s).2 ≠ 0 → (lightS T w s).1 = 0 ∨ (lightS T w s).1 = 1 ∨ (lightS T w s).1 = 2 ∨ (lightS T w s).1 = 3) := by
  unfold lightS
  by_cases c1 : 0 < getI T 0 s 2
  · rw [if_pos c1]
    rcases hs with rfl | ⟨i, hi, rfl⟩
    · rw [getI_neg] at c1; exact absurd c1 (by decide)
    · have b0 := hL.2.1 i hi
      have e1 : getI T 0 (nI i) 1 = tb T 0 i 1 := by unfold getI; rw [if_neg (nI_pos (by omega)), nI_clamp (by omega)]
      have e2 : getI T 0 (nI i) 2 = tb T 0 i 2 := by unfold getI; rw [if_neg (nI_pos (by omega)), nI_clamp (by omega)]
      rw [e1, e2]
      exact ⟨b0.2.2.1, i716 b0.2.2.2, fun _ => i3_r b0.1 b0.2.1⟩
  · rw [if_neg c1]
    by_cases c2 : lampS T w = -1
    · rw [if_pos c2]; exact ⟨by decide, by decide, fun hq => absurd rfl hq⟩
    · rw [if_neg c2]
      by_cases c3 : lampD T w (lampS T w) = 0
      · rw [if_pos c3]; exact ⟨by decide, by decide, fun hq => absurd rfl hq⟩
      · rw [if_neg c3]
        obtain ⟨j, hj, ej⟩ := lampS_rng.resolve_left c2
        have b1 := hL.1 j hj
        have e1 : getI T 1 (nI j) 1 = tb T 1 j 1 := by unfold getI; rw [if_neg (nI_pos (by omega)), nI_clamp (by omega)]
        have e2 : getI T 1 (nI j) 2 = tb T 1 j 2 := by unfold getI; rw [if_neg (nI_pos (by omega)), nI_clamp (by omega)]
        have d1 := sub8 hp.1 hp.2.1 hD.2.1 b1.1 b1.2.1
        have d2 := sub8 hp.2.2.1 hp.2.2.2 hD.2.2.2 b1.2.2.1 b1.2.2.2
        rw [ej]; unfold lampD; rw [e1, e2]
        have q := iabs16 d1.1 d1.2 d2.1 d2.2
        exact ⟨q.1, q.2, fun _ => wayS_r _ _⟩
theorem sun_rng {T : TT} {dark : Bool} {tw at_ : Int32} (hL : WL T) (h0 : 0 ≤ at_) (h24 : at_ < 24) : sunS T dark tw at_ = -1 ∨ ∃ i, i < nq T 0 ∧ sunS T dark tw at_ = nI i := by
  unfold sunS
  split
  · exact Or.inl rfl
  · exact hL.2.2 _ (clamp_lt h0 (show at_ < nI 24 from h24) (by decide))
theorem nq_le {T : TT} (hC : WC T) : nq T 0 ≤ 6 ∧ nq T 1 ≤ 4 ∧ nq T 2 ≤ 12 ∧ nq T 3 ≤ 8 ∧ nq T 4 ≤ 4 := by
  have h := fun q hq => clamp_le (hC q hq).1 (hC q hq).2
  exact ⟨h 0 (by decide) (by decide), h 1 (by decide) (by decide), h 2 (by decide) (by decide), h 3 (by decide) (by decide), h 4 (by decide) (by decide)⟩
theorem i7_1 : (7 : Int32) ≤ 16 := by decide
theorem F42_PM {r : Nat} {S S1 : MS} (h : F42 S S1) : Fr (PM r) S S1 := h.fr
theorem Fr.to {P Q : Nat → Nat → Prop} {S S1 : MS} (h : Fr P S S1) (g : ∀ o j, P o j → Q o j) : Fr Q S S1 := h.mo g
def PFM (o j : Nat) : Prop := o = 0 ∧ (j = 42 ∨ (58 ≤ j ∧ j ≤ 61))
theorem PFM_t : ∀ o j, 2 ≤ o → o < 25 → ¬ PFM o j := fun o j h1 _ h => by have := h.1; omega
theorem PFM_w : ∀ o j, 27 ≤ o → o < 39 → ¬ PFM o j := fun o j h1 _ h => by have := h.1; omega
theorem PFM_M {r : Nat} : ∀ o j, PFM o j → PM r o j := fun o j h => Or.inl h
theorem MO.fm {S S1 : MS} (h : MO S) (f : Fr PFM S S1) : MO S1 := h.fr (r := 0) (f.mo PFM_M)
theorem clamp0' {T : TT} {w : Nat → Int32} {y : Int32} (hD : WD T) (hp : WP T w) : clampS (w 4 + nI 0 * y) (sc T 8 - 1) = w 4 ∧ clampS (w 5 + nI 0 * y) (sc T 9 - 1) = w 5 := ⟨clampS_0 hp.1 hp.2.1 hD.2.1, clampS_0 hp.2.2.1 hp.2.2.2 hD.2.2.2⟩
theorem M_falls {r : Nat} {S : MS} {tw at_ : Int32} {dark : Bool} (h : MO S) (hC : WC (tM S)) (hD : WD (tM S)) (hL : WL (tM S)) (hH : WH (tM S)) (hr : r < 23) (hp : WP (tM S) (wM S r)) (ht : gI S 0 57 = tw) (h0 : 0 ≤ at_) (h24 : at_ < 24) :
    ∃ S1, fX11_falls 0 (nI r) at_ (b2i dark) S = some S1 ∧ Fr PFM S S1 ∧ gI S1 0 58 = (fallS (tM S) (wM S r) (sunS (tM S) dark tw at_) at_).1 ∧ gI S1 0 59 = (fallS (tM S) (wM S r) (sunS (tM S) dark tw at_) at_).2 ∧ gI S1 0 60 = b2i (oneS (tM S) (wM S r) (sunS (tM S) dark tw at_) at_) := by
  have hM := h.1
  have e4 : gI S 30 r = wM S r 4 := rfl
  have e5 : gI S 31 r = wM S r 5 := rfl
  unfold fX11_falls fX11_falls_20
  rw [gR_pI, mr_46 hM, mr_47 hM, lm_30, lm_31, bnd_nI hr (by decide), if_pos rfl, if_pos rfl, nI_clamp (by omega), gI_neo (by decide), e4, e5]
  have f1 : Fr PFM S (pI (pI (pI S 0 58 (wM S r 4)) 0 59 (wM S r 5)) 0 60 1) := ((Fr.rf.pI ⟨rfl, Or.inr (by decide)⟩).pI ⟨rfl, Or.inr (by decide)⟩).pI ⟨rfl, Or.inr (by decide)⟩
  have a58 : gI (pI (pI (pI S 0 58 (wM S r 4)) 0 59 (wM S r 5)) 0 60 1) 0 58 = wM S r 4 := by rw [gI_nek (by decide), gI_nek (by decide), gI_same]
  have a59 : gI (pI (pI (pI S 0 58 (wM S r 4)) 0 59 (wM S r 5)) 0 60 1) 0 59 = wM S r 5 := by rw [gI_nek (by decide), gI_same]
  have a60 : gI (pI (pI (pI S 0 58 (wM S r 4)) 0 59 (wM S r 5)) 0 60 1) 0 60 = 1 := gI_same
  have a57 : gI (pI (pI (pI S 0 58 (wM S r 4)) 0 59 (wM S r 5)) 0 60 1) 0 57 = tw := by rw [gI_nek (by decide), gI_nek (by decide), gI_nek (by decide)]; exact ht
  generalize pI (pI (pI S 0 58 (wM S r 4)) 0 59 (wM S r 5)) 0 60 1 = S2 at f1 a58 a59 a60 a57
  have h2 := h.fm f1
  have et : tM S2 = tM S := Fr.toldM f1 PFM_t
  have ew : wM S2 r = wM S r := wM_fr f1 PFM_w
  obtain ⟨S3, q1, q2, q3, q4⟩ := M_light (dark := dark) h2 (by rw [et]; exact hC) (by rw [et]; exact hD) (by rw [et]; exact hL) hr (by rw [et, ew]; exact hp) a57 h0 h24
  rw [et, ew] at q1 q3 q4
  have f3 : Fr PFM S S3 := f1.tr (q2.mo (fun o j hq => ⟨hq.1, Or.inr (by have := hq.2; omega)⟩))
  rw [q1, Option.bind_some]
  have hq2 := nq_le hC
  have lr := light_rng (w := wM S r) hD hL hp ⟨hq2.1, hq2.2.1⟩ (sun_rng (dark := dark) (tw := tw) hL h0 h24)
  have b58 : gI S3 0 58 = wM S r 4 := (q2.2 _ _ (fun hq => by have := hq.2; omega)).trans a58
  have b59 : gI S3 0 59 = wM S r 5 := (q2.2 _ _ (fun hq => by have := hq.2; omega)).trans a59
  have b60 : gI S3 0 60 = 1 := (q2.2 _ _ (fun hq => by have := hq.2; omega)).trans a60
  by_cases c : gI S3 0 61 = -1
  · have z := q3.mpr c
    refine ⟨S3, if_pos c, f3, ?_, ?_, ?_⟩
    · rw [b58]; unfold fallS; rw [if_pos z]
    · rw [b59]; unfold fallS; rw [if_pos z]
    · rw [b60]; unfold oneS fallS; rw [if_pos z]; simp [b2i]
  · have nz : (lightS (tM S) (wM S r) (sunS (tM S) dark tw at_)).2 ≠ 0 := fun hq => c (q3.mp hq)
    have wy := q4 c
    rw [if_neg c, wy]
    have h3 := h.fm f3
    have et3 : tM S3 = tM S := Fr.toldM f3 PFM_t
    have ew3 : wM S3 r = wM S r := wM_fr f3 PFM_w
    generalize hl1 : (lightS (tM S) (wM S r) (sunS (tM S) dark tw at_)).1 = way at lr
    generalize hl2 : (lightS (tM S) (wM S r) (sunS (tM S) dark tw at_)).2 = far at lr nz
    obtain ⟨S4, c1, j4, c3⟩ := M_calls (far := far) (met := 0) (trod := 0) (at_ := at_) h3.1 hr
    rw [ew3] at c3
    have h4 : MO S4 := h3.fr (r := 0) j4.fr
    have et4 : tM S4 = tM S := (Fr.toldM (j4.fr (P := fun _ _ => False)) (fun _ _ _ _ => id)).trans et3
    obtain ⟨S5, f5, c5⟩ := M_within (k := 0) (most := 7) (without := far) (nm := nmW (wM S r) far 0 0 at_) h4.1 (by decide) h4.2.1 (by rw [et4]; exact hH) c3
    rw [et4] at c5
    unfold fX11_fallsBy
    rw [c1, Option.bind_some, show (0 : Int32) = nI 0 from rfl, c5, Option.bind_some]
    have wr := wthn_rng (l := lwl (tM S) 0) (nm := nmW (wM S r) far 0 0 at_) (most := 7) (far := far) (m := 16) (by decide) (by decide) lr.1 lr.2.1 (by decide)
    obtain ⟨N, hN, eN⟩ := nI_of (Int32.not_lt.mpr wr.1)
    have hN16 : N ≤ 16 := by have := wr.2; rw [eN, show (16 : Int32) = nI 16 from rfl, nI_leI hN (by decide)] at this; exact this
    have f5' : Fr PFM S S5 := (f3.tr j4.fr).tr (f5.p42.mo (fun o j hq => ⟨hq.1, Or.inl hq.2⟩))
    have h5 := h.fm f5'
    have et5 : tM S5 = tM S := Fr.toldM f5' PFM_t
    have ew5 : wM S5 r = wM S r := wM_fr f5' PFM_w
    have d58 : gI S5 0 58 = wM S r 4 := by rw [f5.2 _ _ (fun hq => by have := hq.2; omega), j4.gI]; exact b58
    have d59 : gI S5 0 59 = wM S r 5 := by rw [f5.2 _ _ (fun hq => by have := hq.2; omega), j4.gI]; exact b59
    have z := fun y => clamp0' (y := y) hD hp
    obtain ⟨S6, s1, s2, s3, s4, s5⟩ := M_fb_go (r := r) (N := N) (way := way) (S0 := S5) (by rw [et5]; exact hD) hr (by rw [et5, ew5]; exact hp) hN16 (lr.2.2 nz) N 0 1000 S5 (by omega) (by omega) h5.1 Fr.rf (by rw [ew5, et5, (z _).1]; exact d58) (by rw [ew5, et5, (z _).2]; exact d59)
    rw [et5, ew5] at s3 s4
    rw [ew5] at s5
    rw [show nI 0 = 0 from rfl, eN, show (0 : Int32) = nI 0 from rfl, s1]
    have e1 : gI S6 0 58 = (fallS (tM S) (wM S r) (sunS (tM S) dark tw at_) at_).1 := by
      rw [s3]; unfold fallS; rw [hl1, hl2, if_neg nz, eN]
    have e2 : gI S6 0 59 = (fallS (tM S) (wM S r) (sunS (tM S) dark tw at_) at_).2 := by
      rw [s4]; unfold fallS; rw [hl1, hl2, if_neg nz, eN]
    refine ⟨S6, rfl, f5'.tr (s2.mo (fun o j hq => ⟨hq.1, Or.inr hq.2⟩)), e1, e2, ?_⟩
    rw [s5, e1, e2]; rfl
