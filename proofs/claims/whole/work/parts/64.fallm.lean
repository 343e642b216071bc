/-! ===== where it falls, in the reference ===== -/
theorem M_tb {S : MS} {q c i : Nat} (hq : q < 5) (hc : c < wid q) (hi : i < nq (tM S) q) : tb (tM S) q i c = gI S (mB q + c) i := by
  show tbM S q i c = _
  unfold tbM
  have e : nq (tM S) q = (gI S 2 (5 + q)).toNatClampNeg := by
    unfold nq
    show (scM S q).toNatClampNeg = _
    unfold scM; rw [if_pos hq]
    rcases (by omega : q = 0 ∨ q = 1 ∨ q = 2 ∨ q = 3 ∨ q = 4) with rfl | rfl | rfl | rfl | rfl <;> rfl
  rw [if_pos ⟨hq, hc, by rw [← e]; exact hi⟩]
theorem M_get {S : MS} {q c i : Nat} (hq : q < 5) (hc : c < wid q) (hi : i < nq (tM S) q) (h31 : i < 2 ^ 31) : getI (tM S) q (nI i) c = gI S (mB q + c) i := by
  unfold getI
  rw [if_neg (nI_pos h31), nI_clamp h31, M_tb hq hc hi]
theorem M_cnt {S : MS} {q : Nat} (hC : WC (tM S)) (hq : q < 5) : gI S 2 (5 + q) = nI (nq (tM S) q) ∧ nq (tM S) q ≤ mxq q := by
  have h := hC q hq
  have e : sc (tM S) q = gI S 2 (5 + q) := by
    show scM S q = _
    unfold scM; rw [if_pos hq]
    rcases (by omega : q = 0 ∨ q = 1 ∨ q = 2 ∨ q = 3 ∨ q = 4) with rfl | rfl | rfl | rfl | rfl <;> rfl
  refine ⟨?_, clamp_le h.1 h.2 ?_⟩
  · unfold nq; rw [nI_back h.1, e]
  · rcases (by omega : q = 0 ∨ q = 1 ∨ q = 2 ∨ q = 3 ∨ q = 4) with rfl | rfl | rfl | rfl | rfl <;> decide
theorem M_sun_go {S : MS} {h : Nat} (hM : MR S) (hC : WC (tM S)) (hh : h < 24) : ∀ (d i fuel : Nat) (best last : Int32), nq (tM S) 0 = i + d → d < fuel → (best = -1 ∨ ∃ j, j < i ∧ best = nI j) → (last = -1 ∨ ∃ j, j < i ∧ last = nI j) → fX11_sunAt_7 fuel 0 (nI h) best last (nI i) S = some (sunGo (fun i => gI S 4 i) (nI h) d i best last) := by
  obtain ⟨ec, hn⟩ := M_cnt hC (q := 0) (by decide)
  have hn : nq (tM S) 0 ≤ 6 := hn
  have ec : gI S 2 5 = nI (nq (tM S) 0) := ec
  intro d
  induction d with
  | zero =>
    intro i fuel best last e1 e2 hb hl
    obtain ⟨f, rfl⟩ : ∃ f, fuel = f + 1 := ⟨fuel - 1, by omega⟩
    unfold fX11_sunAt_7
    rw [mr_3 hM, lm_2, show bnd (5 : Int32) 26 = true from rfl, if_pos rfl, show (5 : Int32).toNatClampNeg = 5 from rfl, ec, e1, Nat.add_zero, if_pos (Int32.le_refl _)]
    unfold sunGo
    split <;> rfl
  | succ d ih =>
    intro i fuel best last e1 e2 hb hl
    obtain ⟨f, rfl⟩ : ∃ f, fuel = f + 1 := ⟨fuel - 1, by omega⟩
    have hin : ¬ nI (nq (tM S) 0) ≤ nI i := by rw [nI_leI (by omega) (by omega)]; omega
    have bi : bnd (nI i) 12 = true := bnd_nI (by omega) (by decide)
    have bx : ∀ x : Int32, (x = -1 ∨ ∃ j, j < i ∧ x = nI j) → x ≠ -1 → bnd x 12 = true := by
      rintro x (hx | ⟨j, hj, rfl⟩) hne
      · exact absurd hx hne
      · exact bnd_nI (by omega) (by decide)
    have wk : ∀ x : Int32, (x = -1 ∨ ∃ j, j < i ∧ x = nI j) → (x = -1 ∨ ∃ j, j < i + 1 ∧ x = nI j) := by
      rintro x (hx | ⟨j, hj, hx⟩)
      · exact Or.inl hx
      · exact Or.inr ⟨j, by omega, hx⟩
    have nw : (nI i = -1 ∨ ∃ j, j < i + 1 ∧ nI i = nI j) := Or.inr ⟨i, by omega, rfl⟩
    unfold fX11_sunAt_7 fX11_sunAt_39 fX11_sunAt_42 fX11_sunAt_74 fX11_sunAt_77
    rw [mr_3 hM, mr_5 hM, lm_2, lm_4, show bnd (5 : Int32) 26 = true from rfl, if_pos rfl, show (5 : Int32).toNatClampNeg = 5 from rfl, ec, if_neg hin, nI_1, nI_clamp (show i < 2 ^ 31 by omega), bi]
    have hs : sunGo (fun i => gI S 4 i) (nI h) (d + 1) i best last = sunGo (fun i => gI S 4 i) (nI h) d (i + 1) (if gI S 4 i ≤ nI h ∧ (best = -1 ∨ gI S 4 best.toNatClampNeg < gI S 4 i) then nI i else best) (if last = -1 ∨ gI S 4 last.toNatClampNeg < gI S 4 i then nI i else last) := rfl
    rw [hs]
    -- the second half, whatever the last is
    have half : ∀ l2 : Int32, (l2 = -1 ∨ ∃ j, j < i + 1 ∧ l2 = nI j) → (if true = true then if nI h < gI S 4 i then fX11_sunAt_7 f 0 (nI h) best l2 (nI (i + 1)) S else if best = -1 then fX11_sunAt_7 f 0 (nI h) (nI i) l2 (nI (i + 1)) S else if true = true then if bnd best 12 = true then if gI S 4 i ≤ gI S 4 best.toNatClampNeg then fX11_sunAt_7 f 0 (nI h) best l2 (nI (i + 1)) S else fX11_sunAt_7 f 0 (nI h) (nI i) l2 (nI (i + 1)) S else none else none else none) = some (sunGo (fun i => gI S 4 i) (nI h) d (i + 1) (if gI S 4 i ≤ nI h ∧ (best = -1 ∨ gI S 4 best.toNatClampNeg < gI S 4 i) then nI i else best) l2) := by
      intro l2 hl2
      rw [if_pos rfl]
      by_cases c1 : nI h < gI S 4 i
      · rw [if_pos c1, if_neg (fun hq => absurd c1 (Int32.not_lt.mpr hq.1))]
        exact ih _ _ _ _ (by omega) (by omega) (wk _ hb) hl2
      · have c1' := Int32.not_lt.mp c1
        rw [if_neg c1]
        by_cases c2 : best = -1
        · rw [if_pos c2, if_pos ⟨c1', Or.inl c2⟩]
          exact ih _ _ _ _ (by omega) (by omega) nw hl2
        · rw [if_neg c2, if_pos rfl, if_pos (bx best hb c2)]
          by_cases c3 : gI S 4 i ≤ gI S 4 best.toNatClampNeg
          · rw [if_pos c3, if_neg (fun hq => hq.2.elim c2 (Int32.not_lt.mpr c3))]
            exact ih _ _ _ _ (by omega) (by omega) (wk _ hb) hl2
          · rw [if_neg c3, if_pos ⟨c1', Or.inr (Int32.not_le.mp c3)⟩]
            exact ih _ _ _ _ (by omega) (by omega) nw hl2
    by_cases c1 : last = -1
    · rw [if_pos c1, if_pos (Or.inl c1)]
      exact half _ nw
    · rw [if_neg c1, if_pos rfl, if_pos (bx last hl c1)]
      by_cases c2 : gI S 4 i ≤ gI S 4 last.toNatClampNeg
      · have c3 : ¬ (last = -1 ∨ gI S 4 last.toNatClampNeg < gI S 4 i) := fun hq => hq.elim c1 (Int32.not_lt.mpr c2)
        rw [if_pos c2, if_neg c3]
        exact half _ (wk _ hl)
      · rw [if_neg c2, if_pos (Or.inr (Int32.not_le.mp c2))]
        exact half _ nw
theorem M_sunAt {S : MS} {h : Nat} (hM : MR S) (hC : WC (tM S)) (hh : h < 24) : fX11_sunAt 0 (nI h) S = some (sn (tM S) h) := by
  obtain ⟨ec, hn⟩ := M_cnt hC (q := 0) (by decide)
  have hn : nq (tM S) 0 ≤ 6 := hn
  have e := M_sun_go hM hC hh (nq (tM S) 0) 0 1000 (-1) (-1) (Nat.zero_add _).symm (by omega) (Or.inl rfl) (Or.inl rfl)
  refine e.trans (congrArg some ?_)
  show _ = snM S h
  unfold snM; rw [if_pos hh]; rfl
theorem M_lamp_go {r : Nat} {S : MS} (hM : MR S) (hC : WC (tM S)) (hr : r < 23) : ∀ (d i fuel : Nat) (best least : Int32), nq (tM S) 1 = i + d → d < fuel → fX11_lampAt_7 fuel 0 (nI r) best least (nI i) S = some (lampGo (tM S) (wM S r) d i best least) := by
  obtain ⟨ec, hn⟩ := M_cnt hC (q := 1) (by decide)
  have hn : nq (tM S) 1 ≤ 4 := hn
  have ec : gI S 2 6 = nI (nq (tM S) 1) := ec
  intro d
  induction d with
  | zero =>
    intro i fuel best least e1 e2
    obtain ⟨f, rfl⟩ : ∃ f, fuel = f + 1 := ⟨fuel - 1, by omega⟩
    unfold fX11_lampAt_7
    rw [mr_3 hM, lm_2, show bnd (6 : Int32) 26 = true from rfl, if_pos rfl, show (6 : Int32).toNatClampNeg = 6 from rfl, ec, e1, Nat.add_zero, if_pos (Int32.le_refl _)]
    rfl
  | succ d ih =>
    intro i fuel best least e1 e2
    obtain ⟨f, rfl⟩ : ∃ f, fuel = f + 1 := ⟨fuel - 1, by omega⟩
    have hin : ¬ nI (nq (tM S) 1) ≤ nI i := by rw [nI_leI (by omega) (by omega)]; omega
    have g1 : gI S 8 i = getI (tM S) 1 (nI i) 1 := (M_get (q := 1) (c := 1) (by decide) (by decide) (by omega) (by omega)).symm
    have g2 : gI S 9 i = getI (tM S) 1 (nI i) 2 := (M_get (q := 1) (c := 2) (by decide) (by decide) (by omega) (by omega)).symm
    have g3 : gI S 10 i = getI (tM S) 1 (nI i) 3 := (M_get (q := 1) (c := 3) (by decide) (by decide) (by omega) (by omega)).symm
    have e4 : gI S 30 r = wM S r 4 := rfl
    have e5 : gI S 31 r = wM S r 5 := rfl
    have e7 : gI S 34 r = wM S r 7 := rfl
    unfold fX11_lampAt_7 fX11_lampAt_56 fX11_lampAt_96 fX11_lampAt_102
    rw [mr_3 hM, mr_46 hM, mr_47 hM, mr_9 hM, mr_10 hM, mr_11 hM, mr_50 hM, lm_2, lm_8, lm_9, lm_10, lm_30, lm_31, lm_34, show bnd (6 : Int32) 26 = true from rfl, if_pos rfl, show (6 : Int32).toNatClampNeg = 6 from rfl, ec, if_neg hin, bnd_nI hr (by decide), if_pos rfl, bnd_nI (show i < 8 by omega) (by decide), if_pos rfl, if_pos rfl, if_pos rfl, if_pos rfl, nI_1, nI_clamp (show r < 2 ^ 31 by omega), nI_clamp (show i < 2 ^ 31 by omega), g1, g2, g3, e4, e5, e7]
    rw [show ((if 0 ≤ wM S r 4 - getI (tM S) 1 (nI i) 1 then wM S r 4 - getI (tM S) 1 (nI i) 1 else 0 - (wM S r 4 - getI (tM S) 1 (nI i) 1)) + (if 0 ≤ wM S r 5 - getI (tM S) 1 (nI i) 2 then wM S r 5 - getI (tM S) 1 (nI i) 2 else 0 - (wM S r 5 - getI (tM S) 1 (nI i) 2))) = lampD (tM S) (wM S r) (nI i) from rfl]
    have ih1 := fun b l => ih (i + 1) f b l (by omega) (by omega)
    simp only [ih1, if_true]
    rw [lampGo_s]
    simp only [i1_bit]
    by_cases c1 : (wM S r 7 >>> (nI i &&& 31)) &&& 1 = 0
    · simp only [c1, if_true, not_true, false_and, if_false]
    · simp only [c1, if_false, not_false_eq_true, true_and]
      by_cases c2 : getI (tM S) 1 (nI i) 3 < lampD (tM S) (wM S r) (nI i)
      · simp only [c2, if_true, not_true, false_and, if_false]
      · simp only [c2, if_false, not_false_eq_true, true_and]
        by_cases c3 : best = -1
        · simp only [c3, if_true, true_or]
        · simp only [c3, if_false, false_or]
          by_cases c4 : lampD (tM S) (wM S r) (nI i) < least
          · rw [if_pos c4, if_pos c4]
          · rw [if_neg c4, if_neg c4]
theorem M_lamp {r : Nat} {S : MS} (hM : MR S) (hC : WC (tM S)) (hr : r < 23) : fX11_lampAt 0 (nI r) S = some (lampS (tM S) (wM S r)) := by
  obtain ⟨ec, hn⟩ := M_cnt hC (q := 1) (by decide)
  have hn : nq (tM S) 1 ≤ 4 := hn
  exact M_lamp_go hM hC hr _ 0 1000 (-1) 0 (Nat.zero_add _).symm (by omega)
/-- the light, in the reference: what it answers, and its way -/
theorem iabs_0 {a b : Int32} (ha : -8 ≤ a) (ha2 : a ≤ 8) (hb : -8 ≤ b) (hb2 : b ≤ 8) : iabs a + iabs b = 0 ↔ a = 0 ∧ b = 0 := by unfold iabs; grind
theorem iabs_w {a b : Int32} (ha : -8 ≤ a) (h : iabs a < iabs b) : (b ≤ 0) ↔ ¬ 0 ≤ b := by unfold iabs at h; grind
/-- the lamps are in the room, the suns' ways are ways -/
def WL (T : TT) : Prop := (∀ i, i < nq T 1 → 0 ≤ tb T 1 i 1 ∧ tb T 1 i 1 < 8 ∧ 0 ≤ tb T 1 i 2 ∧ tb T 1 i 2 < 8) ∧ (∀ i, i < nq T 0 → 0 ≤ tb T 0 i 1 ∧ tb T 0 i 1 ≤ 3 ∧ 0 ≤ tb T 0 i 2 ∧ tb T 0 i 2 ≤ 7) ∧ (∀ h, h < 24 → sn T h = -1 ∨ ∃ i, i < nq T 0 ∧ sn T h = nI i)
theorem lampGo_rng {T : TT} {w : Nat → Int32} {m : Nat} : ∀ (d i : Nat) (best least : Int32), i + d = m → (best = -1 ∨ ∃ j, j < m ∧ best = nI j) → (lampGo T w d i best least = -1 ∨ ∃ j, j < m ∧ lampGo T w d i best least = nI j) := by
  intro d
  induction d with
  | zero => intro i best least e hb; exact hb
  | succ d ih =>
    intro i best least e hb
    rw [lampGo_s]
    split
    · exact ih _ _ _ (by omega) (Or.inr ⟨i, by omega, rfl⟩)
    · exact ih _ _ _ (by omega) hb
theorem lampS_rng {T : TT} {w : Nat → Int32} : lampS T w = -1 ∨ ∃ j, j < nq T 1 ∧ lampS T w = nI j := lampGo_rng _ 0 _ _ (Nat.zero_add _) (Or.inl rfl)
theorem sub8 {a b R : Int32} (h1 : 0 ≤ a) (h2 : a < R) (hR : R ≤ 8) (h3 : 0 ≤ b) (h4 : b < 8) : -8 ≤ a - b ∧ a - b ≤ 8 := by grind
def PL1 (o j : Nat) : Prop := o = 0 ∧ j = 61
theorem M_light {r : Nat} {S : MS} {tw at_ : Int32} {dark : Bool} (h : MO S) (hC : WC (tM S)) (hD : WD (tM S)) (hL : WL (tM S)) (hr : r < 23) (hp : WP (tM S) (wM S r)) (ht : gI S 0 57 = tw) (h0 : 0 ≤ at_) (h24 : at_ < 24) :
    ∃ S1, fX11_lightFar 0 (nI r) at_ (b2i dark) S = some ((lightS (tM S) (wM S r) (sunS (tM S) dark tw at_)).2, S1) ∧ Fr PL1 S S1 ∧ ((lightS (tM S) (wM S r) (sunS (tM S) dark tw at_)).2 = 0 ↔ gI S1 0 61 = -1) ∧ (gI S1 0 61 ≠ -1 → gI S1 0 61 = (lightS (tM S) (wM S r) (sunS (tM S) dark tw at_)).1) := by
  have hM := h.1
  obtain ⟨k, hk, rfl⟩ := nI_of (Int32.not_lt.mpr h0)
  have hk24 : k < 24 := (nI_ltI hk (by decide)).mp h24
  obtain ⟨ec0, hn0⟩ := M_cnt hC (q := 0) (by decide)
  obtain ⟨ec1, hn1⟩ := M_cnt hC (q := 1) (by decide)
  have hn0 : nq (tM S) 0 ≤ 6 := hn0
  have hn1 : nq (tM S) 1 ≤ 4 := hn1
  have fr1 : Fr PL1 S (pI S 0 61 (-1)) := Fr.rf.pI ⟨rfl, rfl⟩
  have et : tM (pI S 0 61 (-1)) = tM S := Fr.toldM fr1 (fun o j a b hq => by have := hq.1; omega)
  have ew : wM (pI S 0 61 (-1)) r = wM S r := wM_ne (by decide)
  have g61 : gI (pI S 0 61 (-1)) 0 61 = -1 := gI_same
  have hM1 : MR (pI S 0 61 (-1)) := hM.of rfl
  have core : ∀ s : Int32, (s = -1 ∨ ∃ i, i < nq (tM S) 0 ∧ s = nI i) → ∃ S1, fX11_lightFar_26 0 (nI r) s (pI S 0 61 (-1)) = some ((lightS (tM S) (wM S r) s).2, S1) ∧ Fr PL1 S S1 ∧ ((lightS (tM S) (wM S r) s).2 = 0 ↔ gI S1 0 61 = -1) ∧ (gI S1 0 61 ≠ -1 → gI S1 0 61 = (lightS (tM S) (wM S r) s).1) := by
    intro s hs
    -- the lamp
    have lamp : ¬ 0 < getI (tM S) 0 s 2 → ∃ S1, fX11_lightFar_63 0 (nI r) (pI S 0 61 (-1)) = some ((lightS (tM S) (wM S r) s).2, S1) ∧ Fr PL1 S S1 ∧ ((lightS (tM S) (wM S r) s).2 = 0 ↔ gI S1 0 61 = -1) ∧ (gI S1 0 61 ≠ -1 → gI S1 0 61 = (lightS (tM S) (wM S r) s).1) := by
      intro nl
      unfold fX11_lightFar_63 fX11_lightFar_122 fX11_lightFar_146 fX11_lightFar_163 fX11_lightFar_166
      rw [M_lamp hM1 (by rw [et]; exact hC) hr, Option.bind_some, et, ew]
      unfold lightS
      rw [if_neg nl]
      by_cases c2 : lampS (tM S) (wM S r) = -1
      · rw [if_pos c2, if_pos c2]
        exact ⟨_, rfl, fr1, ⟨fun _ => g61, fun _ => rfl⟩, fun hq => absurd g61 hq⟩
      · rw [if_neg c2, if_neg c2]
        obtain ⟨j, hj, ej⟩ := lampS_rng.resolve_left c2
        have b1 := hL.1 j hj
        have e1 : getI (tM S) 1 (nI j) 1 = tb (tM S) 1 j 1 := by unfold getI; rw [if_neg (nI_pos (by omega)), nI_clamp (by omega)]
        have e2 : getI (tM S) 1 (nI j) 2 = tb (tM S) 1 j 2 := by unfold getI; rw [if_neg (nI_pos (by omega)), nI_clamp (by omega)]
        have g1 : gI (pI S 0 61 (-1)) 8 j = tb (tM S) 1 j 1 := by rw [gI_neo (by decide)]; exact (M_tb (q := 1) (c := 1) (by decide) (by decide) hj).symm
        have g2 : gI (pI S 0 61 (-1)) 9 j = tb (tM S) 1 j 2 := by rw [gI_neo (by decide)]; exact (M_tb (q := 1) (c := 2) (by decide) (by decide) hj).symm
        have g4 : gI (pI S 0 61 (-1)) 30 r = wM S r 4 := by rw [gI_neo (by decide)]; rfl
        have g5 : gI (pI S 0 61 (-1)) 31 r = wM S r 5 := by rw [gI_neo (by decide)]; rfl
        rw [ej]
        unfold lampD
        rw [e1, e2, mr_46 hM1, mr_47 hM1, mr_9 hM1, mr_10 hM1, lm_30, lm_31, lm_8, lm_9, bnd_nI hr (by decide), if_pos rfl, bnd_nI (show j < 8 by omega) (by decide), if_pos rfl, if_pos rfl, if_pos rfl, nI_clamp (show r < 2 ^ 31 by omega), nI_clamp (show j < 2 ^ 31 by omega), g1, g2, g4, g5]
        have d1 := sub8 hp.1 hp.2.1 hD.2.1 b1.1 b1.2.1
        have d2 := sub8 hp.2.2.1 hp.2.2.2 hD.2.2.2 b1.2.2.1 b1.2.2.2
        generalize wM S r 4 - tb (tM S) 1 j 1 = a at d1
        generalize wM S r 5 - tb (tM S) 1 j 2 = b at d2
        have z := iabs_0 d1.1 d1.2 d2.1 d2.2
        have far : (if 0 ≤ a then a else 0 - a) + (if 0 ≤ b then b else 0 - b) = iabs a + iabs b := rfl
        have fin : ∀ v : Int32, v ≠ -1 → ¬ (iabs a + iabs b = 0) → wayS a b = v → ∃ S1, some ((if 0 ≤ a then a else 0 - a) + (if 0 ≤ b then b else 0 - b), pI (pI S 0 61 (-1)) 0 61 v) = some ((if iabs a + iabs b = 0 then ((-1 : Int32), (0 : Int32)) else (wayS a b, iabs a + iabs b)).2, S1) ∧ Fr PL1 S S1 ∧ ((if iabs a + iabs b = 0 then ((-1 : Int32), (0 : Int32)) else (wayS a b, iabs a + iabs b)).2 = 0 ↔ gI S1 0 61 = -1) ∧ (gI S1 0 61 ≠ -1 → gI S1 0 61 = (if iabs a + iabs b = 0 then ((-1 : Int32), (0 : Int32)) else (wayS a b, iabs a + iabs b)).1) := by
          intro v hv hnz hwv
          rw [if_neg hnz, far]
          refine ⟨_, rfl, fr1.pI ⟨rfl, rfl⟩, ?_, ?_⟩
          · rw [gI_same]; exact ⟨fun hq => absurd hq hnz, fun hq => absurd hq hv⟩
          · intro _; rw [gI_same]; exact hwv.symm
        have go : ¬ (iabs a + iabs b = 0) → ∃ S1, (if (if 0 ≤ a then a else 0 - a) < (if 0 ≤ b then b else 0 - b) then (if b ≤ 0 then some ((if 0 ≤ a then a else 0 - a) + (if 0 ≤ b then b else 0 - b), pI (pI S 0 61 (-1)) 0 61 3) else some ((if 0 ≤ a then a else 0 - a) + (if 0 ≤ b then b else 0 - b), pI (pI S 0 61 (-1)) 0 61 1)) else (if 0 ≤ a then some ((if 0 ≤ a then a else 0 - a) + (if 0 ≤ b then b else 0 - b), pI (pI S 0 61 (-1)) 0 61 2) else some ((if 0 ≤ a then a else 0 - a) + (if 0 ≤ b then b else 0 - b), pI (pI S 0 61 (-1)) 0 61 0))) = some ((if iabs a + iabs b = 0 then ((-1 : Int32), (0 : Int32)) else (wayS a b, iabs a + iabs b)).2, S1) ∧ Fr PL1 S S1 ∧ ((if iabs a + iabs b = 0 then ((-1 : Int32), (0 : Int32)) else (wayS a b, iabs a + iabs b)).2 = 0 ↔ gI S1 0 61 = -1) ∧ (gI S1 0 61 ≠ -1 → gI S1 0 61 = (if iabs a + iabs b = 0 then ((-1 : Int32), (0 : Int32)) else (wayS a b, iabs a + iabs b)).1) := by
          intro hnz
          by_cases c4 : iabs a < iabs b
          · have c5 := iabs_w d1.1 c4
            rw [if_pos (show (if 0 ≤ a then a else 0 - a) < (if 0 ≤ b then b else 0 - b) from c4)]
            by_cases c6 : 0 ≤ b
            · rw [if_neg (fun hq => c5.mp hq c6)]
              exact fin 1 (by decide) hnz (by unfold wayS; rw [if_pos c4, if_pos c6])
            · rw [if_pos (c5.mpr c6)]
              exact fin 3 (by decide) hnz (by unfold wayS; rw [if_pos c4, if_neg c6])
          · rw [if_neg (show ¬ (if 0 ≤ a then a else 0 - a) < (if 0 ≤ b then b else 0 - b) from c4)]
            by_cases c6 : 0 ≤ a
            · rw [if_pos c6]
              exact fin 2 (by decide) hnz (by unfold wayS; rw [if_neg c4, if_pos c6])
            · rw [if_neg c6]
              exact fin 0 (by decide) hnz (by unfold wayS; rw [if_neg c4, if_neg c6])
        by_cases ca : a = 0
        · rw [if_pos ca]
          by_cases cb : b = 0
          · rw [if_pos cb]
            have hz := z.mpr ⟨ca, cb⟩
            rw [if_pos hz]
            exact ⟨_, rfl, fr1, ⟨fun _ => g61, fun _ => rfl⟩, fun hq => absurd g61 hq⟩
          · rw [if_neg cb]
            exact go (fun hq => cb (z.mp hq).2)
        · rw [if_neg ca]
          exact go (fun hq => ca (z.mp hq).1)
    unfold fX11_lightFar_26
    rcases hs with rfl | ⟨i, hi, rfl⟩
    · rw [if_pos rfl]
      exact lamp (by rw [getI_neg]; decide)
    · have hne : ¬ nI i = -1 := fun hq => absurd (hq ▸ nI_pos' (n := i) (by omega)) (by decide)
      have b0 := hL.2.1 i hi
      have e1 : getI (tM S) 0 (nI i) 1 = tb (tM S) 0 i 1 := by unfold getI; rw [if_neg (nI_pos (by omega)), nI_clamp (by omega)]
      have e2 : getI (tM S) 0 (nI i) 2 = tb (tM S) 0 i 2 := by unfold getI; rw [if_neg (nI_pos (by omega)), nI_clamp (by omega)]
      have g1 : gI (pI S 0 61 (-1)) 5 i = tb (tM S) 0 i 1 := by rw [gI_neo (by decide)]; exact (M_tb (q := 0) (c := 1) (by decide) (by decide) hi).symm
      have g2 : gI (pI S 0 61 (-1)) 6 i = tb (tM S) 0 i 2 := by rw [gI_neo (by decide)]; exact (M_tb (q := 0) (c := 2) (by decide) (by decide) hi).symm
      rw [if_neg hne]; simp only [gR_pI, mr_6 hM, mr_7 hM]; rw [lm_5, lm_6, bnd_nI (show i < 12 by omega) (by decide), if_pos rfl, nI_clamp (show i < 2 ^ 31 by omega), g2, g1]
      by_cases c1 : tb (tM S) 0 i 2 ≤ 0
      · rw [if_pos c1]
        exact lamp (by rw [e2]; exact Int32.not_lt.mpr c1)
      · rw [if_neg c1, if_pos rfl, if_pos rfl]
        have pl : 0 < getI (tM S) 0 (nI i) 2 := by rw [e2]; exact Int32.not_le.mp c1
        unfold lightS
        rw [if_pos pl, e1, e2, gI_neo (by decide), g2]
        have hn1 : tb (tM S) 0 i 1 ≠ -1 := fun hq => absurd (hq ▸ b0.1) (by decide)
        have hn2 : tb (tM S) 0 i 2 ≠ 0 := fun hq => c1 (hq ▸ Int32.le_refl _)
        refine ⟨_, rfl, fr1.pI ⟨rfl, rfl⟩, ?_, ?_⟩
        · rw [gI_same]; exact ⟨fun hq => absurd hq hn2, fun hq => absurd hq hn1⟩
        · intro _; rw [gI_same]
  unfold fX11_lightFar fX11_lightFar_17
  have g57 : gI (pI S 0 61 (-1)) 0 57 = tw := by rw [gI_nek (by decide)]; exact ht
  cases dark with
  | true =>
    rw [if_neg (by decide), show sunS (tM S) true tw (nI k) = -1 from if_pos (Or.inl rfl)]
    exact core _ (Or.inl rfl)
  | false =>
    rw [if_pos (show b2i false = 0 from rfl), g57]
    by_cases c : tw = 5
    · rw [if_pos c, show sunS (tM S) false tw (nI k) = -1 from if_pos (Or.inr c)]
      exact core _ (Or.inl rfl)
    · rw [if_neg c, M_sunAt hM1 (by rw [et]; exact hC) hk24, Option.bind_some, et, show sunS (tM S) false tw (nI k) = sn (tM S) k from (if_neg (by simp [c])).trans (by rw [nI_clamp hk])]
      exact core _ (hL.2.2 k hk24)
