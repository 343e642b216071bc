/-! ===== where she was at first: struck, gone through, counted ===== -/
def P86 (o j : Nat) : Prop := o = 86
def P47 (o j : Nat) : Prop := o = 47
theorem nar0 : vp_nar .boolean (0 : Int32) = 0 := by decide
theorem nar1 : vp_nar .boolean (1 : Int32) = 1 := by decide
theorem X_zero_go {t : Nat} {S0 : MS} : ∀ (d i fuel : Nat) (S : MS), 24 = i + d → d < fuel → RX t S → Fr P86 S0 S → (∀ k, k < i → gI S 86 k = 0) →
    ∃ S1, fX6_settle_2 fuel 83 (nI i) S = ((fX6_reach 83 S1).bind fun q17 => fX6_settle_33 1000 83 ((if (24 : Int32) < q17 then (24 : Int32) else q17) - (1 : Int32)) S1) ∧ Fr P86 S0 S1 ∧ (∀ k, k < 24 → gI S1 86 k = 0) := by
  intro d
  induction d with
  | zero =>
    intro i fuel S e1 e2 h hf h1
    obtain ⟨f, rfl⟩ : ∃ f, fuel = f + 1 := ⟨fuel - 1, by omega⟩
    refine ⟨S, ?_, hf, fun k hk => h1 k (by omega)⟩
    unfold fX6_settle_2
    rw [show i = 24 from by omega, if_pos (by decide)]
  | succ d ih =>
    intro i fuel S e1 e2 h hf h1
    obtain ⟨f, rfl⟩ : ∃ f, fuel = f + 1 := ⟨fuel - 1, by omega⟩
    unfold fX6_settle_2
    rw [if_neg (show ¬ (24 : Int32) ≤ nI i from nle (n := 24) (by decide) (by omega)), rx_83_1 h, lx_86, bnd_nI (show i < 24 by omega) (by decide), if_pos rfl, nI_clamp (by omega), nar0, nI_1]
    refine ih (i + 1) f _ (by omega) (by omega) (h.of rfl) (hf.pI rfl) (fun k hk => ?_)
    by_cases hki : k = i
    · subst hki; exact gI_same
    · rw [gI_nek hki]; exact h1 k (by omega)
theorem M_zero_go {n m : Nat} {z x2 : Int32} {M0 X0 S0 : MS} (hs : XS n m M0 X0) : ∀ (d k fuel : Nat) (S : MS), m = k + d → d < fuel → MR S → gI S 0 66 = nI n → gI S 0 67 = gI X0 83 2 → Fr P47 S0 S → (∀ j, j < k → gI S 47 j = 0) →
    ∃ S1, fX11_homes_20 fuel 0 z x2 (nI k) S = fX11_homes_48 1000 0 z x2 (nI m - 1) S1 ∧ Fr P47 S0 S1 ∧ (∀ j, j < m → gI S1 47 j = 0) := by
  have h2 := hs.2.1
  have h3 := hs.2.2.1
  intro d
  induction d with
  | zero =>
    intro k fuel S e1 e2 h h66 h67 hf h1
    obtain ⟨f, rfl⟩ : ∃ f, fuel = f + 1 := ⟨fuel - 1, by omega⟩
    refine ⟨S, ?_, hf, fun j hj => h1 j (by omega)⟩
    unfold fX11_homes_20
    rw [M_known hs h66 h67, Option.bind_some, Option.bind_some, if_pos (by rw [e1, Nat.add_zero]; exact Int32.le_refl _)]
  | succ d ih =>
    intro k fuel S e1 e2 h h66 h67 hf h1
    obtain ⟨f, rfl⟩ : ∃ f, fuel = f + 1 := ⟨fuel - 1, by omega⟩
    unfold fX11_homes_20
    rw [M_known hs h66 h67, Option.bind_some, if_neg (nle (by omega) (by omega)), mr_73 h, lm_47, bnd_nI (show k < 24 by omega) (by decide), if_pos rfl, nI_clamp (by omega), nar0, nI_1]
    refine ih (k + 1) f _ (by omega) (by omega) (h.of rfl) (by rw [gI_neo (by decide)]; exact h66) (by rw [gI_neo (by decide)]; exact h67) (hf.pI rfl) (fun j hj => ?_)
    by_cases hjk : j = k
    · subst hjk; exact gI_same
    · rw [gI_nek hjk]; exact h1 j (by omega)
theorem XS.fr {n m : Nat} {M0 M1 S S1 : MS} (h : XS n m M0 S) (e84 : gI S1 84 3 = gI S 84 3) (e83 : gI S1 83 2 = gI S 83 2) (e85 : ∀ j, gI S1 85 j = gI S 85 j) (eM : ∀ o k, 42 ≤ o → o ≤ 46 → gI M1 o k = gI M0 o k) : XS n m M1 S1 := by
  obtain ⟨h1, h2, h3, h4, h5⟩ := h
  exact ⟨by rw [e84]; exact h1, h2, h3, by rw [e83]; exact h4, fun k hk => (h5 k hk).fr (fun j _ => e85 j) (fun o a b => eM o k a b)⟩
theorem k86 : ∀ q ∈ kXl, q.1 ≠ 86 := by decide
theorem KX86 {S : MS} {j : Nat} {v : Int32} (h : KX S) : KX (pI S 86 j v) := h.pI (fun q hq hh => k86 q hq hh.1)
theorem st_go {t n m : Nat} {z x2 : Int32} : ∀ (i fuel : Nat) (S M : MS), i ≤ m → i < fuel → RX t S → KX S → MR M → XS n m M S → SR m M S →
    ∃ S1 M1, fX6_settle_33 fuel 83 (nI i - 1) S = some S1 ∧ fX11_homes_48 fuel 0 z x2 (nI i - 1) M = fX11_homes_91 1000 0 z x2 0 M1 ∧ Fr P86 S S1 ∧ Fr P47 M M1 ∧ SR m M1 S1 := by
  intro i
  induction i with
  | zero =>
    intro fuel S M hi hf hR hK hM hs hr
    obtain ⟨f, rfl⟩ : ∃ f, fuel = f + 1 := ⟨fuel - 1, by omega⟩
    refine ⟨S, M, ?_, ?_, Fr.rf, Fr.rf, hr⟩
    · unfold fX6_settle_33; rw [if_pos (by decide)]
    · unfold fX11_homes_48; rw [if_pos (by decide)]
  | succ i ih =>
    intro fuel S M hi hf hR hK hM hs hr
    obtain ⟨f, rfl⟩ : ∃ f, fuel = f + 1 := ⟨fuel - 1, by omega⟩
    have h2 := hs.2.1
    have h3 := hs.2.2.1
    have g1 : fX7_get 84 (nI i) (1 : Int32) S = _ := X_g85 (c := 1) hR hK hs (show i < n by omega) (by decide)
    have g2 : fX7_get 84 (nI i) (2 : Int32) S = _ := X_g85 (c := 2) hR hK hs (show i < n by omega) (by decide)
    have hsn := hs.2.2.2.2 i (by omega)
    have hw := SN_who hsn (by omega)
    obtain ⟨hr1, hr2⟩ := hr i (by omega)
    have b24 : bnd (nI i) 24 = true := bnd_nI (by omega) (by decide)
    have ci : (nI i).toNatClampNeg = i := nI_clamp (by omega)
    have em1 : nI i + -1 = nI i - 1 := by grind
    have skip := ih f S M (by omega) (by omega) hR hK hM hs hr
    unfold fX6_settle_33 fX11_homes_48 fX6_settle_85 fX11_homes_83
    rw [nI_pred, if_neg (nI_pos (by omega)), if_neg (nI_pos (by omega)), rx_83_0 hR, rx_83_1 hR, g1, g2, lx_86, mr_72 hM, mr_73 hM, lm_46, lm_47, em1]
    simp only [b24, ci, if_true, Option.bind_some, hr1]
    by_cases c1 : gI M 46 i = -1
    · rw [if_neg (fun e => hw.mp e c1)]
      simp only [c1, if_true, ite_self]
      exact skip
    · rw [if_pos (hw.mpr c1)]
      by_cases c2 : gI M 47 i = 0
      · rw [if_pos c2, if_pos c2, if_neg c1]
        rcases hsn with ⟨s1, -⟩ | ⟨j, hj, s1, s2, s3⟩
        · exact absurd s1 c1
        · have bj : bnd (nI j) 24 = true := bnd_nI (by omega) (by decide)
          have cj : (nI j).toNatClampNeg = j := nI_clamp (by omega)
          rw [s1, s3, if_neg (nI_pos (by omega)), if_neg (nle (by omega) hj), bj, if_pos rfl, if_pos rfl, cj, nar1]
          have hr' : SR m (pI M 47 j 1) (pI S 86 j 1) := by
            intro k hk
            by_cases hkj : k = j
            · subst hkj; rw [gI_same, gI_same]; exact ⟨rfl, Or.inr rfl⟩
            · rw [gI_nek hkj, gI_nek hkj]; exact hr k hk
          obtain ⟨S1, M1, q1, q2, q3, q4, q5⟩ := ih f (pI S 86 j 1) (pI M 47 j 1) (by omega) (by omega) (hR.of rfl) (KX86 hK) (hM.of rfl) (hs.fr (gI_neo (by decide)) (gI_neo (by decide)) (fun j => gI_neo (by decide)) (fun o k a b => gI_neo (by omega))) hr'
          have f86 : Fr P86 S (pI S 86 j 1) := Fr.rf.pI rfl
          have f47 : Fr P47 M (pI M 47 j 1) := Fr.rf.pI rfl
          exact ⟨S1, M1, q1, q2, f86.tr q3, f47.tr q4, q5⟩
      · rw [if_neg c2, if_neg c2]; exact skip
theorem M_last_go {n m : Nat} {z : Int32} {X0 M : MS} (hM : MR M) (hs : XS n m M X0) (h66 : gI M 0 66 = nI n) (h67 : gI M 0 67 = gI X0 83 2) : ∀ (d k fuel : Nat) (a : Int32), m = k + d → d < fuel → fX11_homes_91 fuel 0 z a (nI k) M = fX11_homes_144 1000 0 z (lastGo M d k a) 0 (-2) 0 M := by
  have h2 := hs.2.1
  have h3 := hs.2.2.1
  intro d
  induction d with
  | zero =>
    intro k fuel a e1 e2
    obtain ⟨f, rfl⟩ : ∃ f, fuel = f + 1 := ⟨fuel - 1, by omega⟩
    unfold fX11_homes_91
    rw [M_known hs h66 h67, Option.bind_some, e1, Nat.add_zero, if_pos (Int32.le_refl _)]; rfl
  | succ d ih =>
    intro k fuel a e1 e2
    obtain ⟨f, rfl⟩ : ∃ f, fuel = f + 1 := ⟨fuel - 1, by omega⟩
    have b24 : bnd (nI k) 24 = true := bnd_nI (by omega) (by decide)
    have ck : (nI k).toNatClampNeg = k := nI_clamp (by omega)
    unfold fX11_homes_91 fX11_homes_129
    simp only [M_known hs h66 h67, Option.bind_some, nle (show m < 2 ^ 31 by omega) (show k < m by omega), if_false, mr_68 hM, mr_72 hM, mr_73 hM, lm_42, lm_46, lm_47, b24, ck, if_true, nI_1]
    have i1 := fun a => ih (k + 1) f a (by omega) (by omega)
    simp only [i1]
    show _ = fX11_homes_144 1000 0 z (lastGo M d (k + 1) (if knE M k = true then (if a < gI M 42 k then gI M 42 k else a) else a)) 0 (-2) 0 M
    unfold knE
    by_cases c1 : gI M 47 k = 0
    · by_cases c2 : gI M 46 k = -1
      · simp only [c1, c2, if_true, and_self, decide_true]
      · simp only [c1, c2, if_true, if_false, and_false, decide_false, Bool.false_eq_true]
    · simp only [c1, if_false, false_and, decide_false, Bool.false_eq_true]
/-! one home -/
theorem clampS_rng {x R : Int32} (h1 : 0 < R) (h2 : R ≤ 8) : ∃ i : Nat, i < 8 ∧ clampS x (R - 1) = nI i := by
  have h3 : 0 ≤ clampS x (R - 1) ∧ clampS x (R - 1) < 8 := by unfold clampS; grind
  obtain ⟨i, hi, e⟩ := nI_of (Int32.not_lt.mpr h3.1)
  exact ⟨i, by have := h3.2; rw [e, show (8 : Int32) = nI 8 from rfl, nI_ltI hi (by decide)] at this; exact this, e⟩
theorem WP_idx {T : TT} {w : Nat → Int32} (hD : WD T) (hp : WP T w) : ∃ i j : Nat, i < 8 ∧ j < 8 ∧ w 4 = nI i ∧ w 5 = nI j :=
  cell_idx (Int32.not_lt.mpr hp.1) (Int32.not_le.mpr hp.2.1) (Int32.not_lt.mpr hp.2.2.1) (Int32.not_le.mpr hp.2.2.2) hD.2.1 hD.2.2.2
theorem fall_rng {T : TT} {w : Nat → Int32} {s a : Int32} (hD : WD T) (hp : WP T w) : ∃ i j : Nat, i < 8 ∧ j < 8 ∧ (fallS T w s a).1 = nI i ∧ (fallS T w s a).2 = nI j := by
  unfold fallS
  split
  · exact WP_idx hD hp
  · obtain ⟨i, hi, e1⟩ := clampS_rng (x := w 4 + wthn (lwl T 0) (nmW w (lightS T w s).2 0 0 a) 7 (lightS T w s).2 * dnB (lightS T w s).1) hD.1 hD.2.1
    obtain ⟨j, hj, e2⟩ := clampS_rng (x := w 5 + wthn (lwl T 0) (nmW w (lightS T w s).2 0 0 a) 7 (lightS T w s).2 * rtB (lightS T w s).1) hD.2.2.1 hD.2.2.2
    exact ⟨i, j, hi, hj, e1, e2⟩
theorem fp_rng {T : TT} {tw : Int32} {dr : Bool} {w : Nat → Int32} (hD : WD T) (hk : WOK T w) : ∃ i j : Nat, i < 8 ∧ j < 8 ∧ (fpW T tw dr w).1 = nI i ∧ (fpW T tw dr w).2 = nI j :=
  fall_rng hD (WOK_stp _ _ _ (WOK_cloud hk)).1
def homGo (T : TT) (M0 : MS) (m : Nat) : Nat → Nat → (Nat → Int32) → Bool
  | 0, _, _ => true
  | d + 1, h, W => if agE M0 (nI h) (8 * passW T 0 false W 4 + passW T 0 false W 5) (8 * (fpW T 0 false W).1 + (fpW T 0 false W).2) m 0 = true then homGo T M0 m d (h + 1) (passW T 0 false W) else false
theorem PX95_x : ∀ {S S1 : MS}, Fr (PX 95) S S1 → (∀ o j, 83 ≤ o → o ≤ 86 → gI S1 o j = gI S o j) := fun f o j a b => f.2 _ _ (fun hp => by unfold PX at hp; omega)
theorem X_home_go {t n m l : Nat} {T : TT} {M0 : MS} (hW : WT T) (hl : l ≤ 40) : ∀ (d h fuel : Nat) (S : MS), l + 1 = h + d → d < fuel → XO t S → tX S t = T → XS n m M0 S → SR m M0 S → WOK T (wX S 95) → wX S 95 3 = nI (h - 1) → 1 ≤ h →
    ∃ S1, fX10_isHome_24 fuel 0 (nI l) (nI h) S = some (b2i (homGo T M0 m d h (wX S 95)), S1) ∧ Fr (PX 95) S S1 := by
  intro d
  induction d with
  | zero =>
    intro h fuel S e1 e2 hX et hs hr hk e3 h1
    obtain ⟨f, rfl⟩ : ∃ f, fuel = f + 1 := ⟨fuel - 1, by omega⟩
    refine ⟨S, ?_, Fr.rf⟩
    unfold fX10_isHome_24
    rw [if_pos (nI_lt (by omega) (by omega))]; rfl
  | succ d ih =>
    intro h fuel S e1 e2 hX et hs hr hk e3 h1
    obtain ⟨f, rfl⟩ : ∃ f, fuel = f + 1 := ⟨fuel - 1, by omega⟩
    have hD := hW.2.2.2.1
    have h24 := hs.2.1
    have hmn := hs.2.2.1
    obtain ⟨S1, q1, q2, q3, q4, q5⟩ := X_pass2 (w := 95) hX W95 et hW hk HW00 (fun hh => absurd hh (by decide))
    have hk1 : WOK T (passW T 0 false (wX S 95)) := WOK_pass hW hk (by rw [e3, show (20000 : Int32) = nI 20000 from rfl, nI_ltI (by omega) (by decide)]; omega)
    have hX1 := hX.fr W95 q3
    have e83 := PX95_x q3
    have hs1 : XS n m M0 S1 := hs.fr (e83 _ _ (by decide) (by decide)) (e83 _ _ (by decide) (by decide)) (fun j => e83 _ _ (by decide) (by decide)) (fun _ _ _ _ => rfl)
    have hr1 : SR m M0 S1 := fun k hk => by rw [e83 _ _ (by decide) (by decide)]; exact hr k hk
    obtain ⟨a, b, ha, hb, ea, eb⟩ := WP_idx hD hk1.1
    obtain ⟨c, dd, hc, hd, ec, ed⟩ := fp_rng (tw := 0) (dr := false) hD hk
    have x4 : gI S1 95 4 = nI a := by rw [← ea, ← q2]; rfl
    have x5 : gI S1 95 5 = nI b := by rw [← eb, ← q2]; rfl
    have ag := X_ag_go (w := 95) (h := h) hX1.1 hX1.2.1 hs1 hr1 ha hb hc hd x4 x5 (q4.trans ec) (q5.trans ed) (by omega) m 0 1000 (Nat.zero_add _).symm (by omega)
    have ag' : fX6_agrees 83 (nI h) 95 S1 = some (b2i (agE M0 (nI h) (8 * passW T 0 false (wX S 95) 4 + passW T 0 false (wX S 95) 5) (8 * (fpW T 0 false (wX S 95)).1 + (fpW T 0 false (wX S 95)).2) m 0)) := by
      rw [ea, eb, ec, ed, idx8', idx8']; exact ag
    unfold fX10_isHome_24
    rw [if_neg (by rw [nI_ltI (by omega) (by omega)]; omega), rx_0_4 hX.1, rx_0_11 hX.1, q1, Option.bind_some, rx_0_8 hX1.1, rx_0_11 hX1.1, ag', Option.bind_some, nI_1]
    show ∃ S2, _ = some (b2i (if agE M0 (nI h) (8 * passW T 0 false (wX S 95) 4 + passW T 0 false (wX S 95) 5) (8 * (fpW T 0 false (wX S 95)).1 + (fpW T 0 false (wX S 95)).2) m 0 = true then homGo T M0 m d (h + 1) (passW T 0 false (wX S 95)) else false), S2) ∧ _
    cases agE M0 (nI h) (8 * passW T 0 false (wX S 95) 4 + passW T 0 false (wX S 95) 5) (8 * (fpW T 0 false (wX S 95)).1 + (fpW T 0 false (wX S 95)).2) m 0 with
    | false => exact ⟨S1, rfl, q3⟩
    | true =>
      rw [if_neg b2i_t, if_pos rfl, ← q2]
      obtain ⟨S2, r1, r2⟩ := ih (h + 1) f S1 (by omega) (by omega) hX1 ((hX.told W95 q3).trans et) hs1 hr1 (by rw [q2]; exact hk1) (by rw [q2, pass_3, e3, nI_1, show h - 1 + 1 = h + 1 - 1 from by omega]) (by omega)
      exact ⟨S2, r1, q3.tr r2⟩
def PMe (o j : Nat) : Prop := (o = 0 ∧ (j = 66 ∨ j = 67)) ∨ (42 ≤ o ∧ o ≤ 47)
theorem PM1_e {S S1 : MS} (f : Fr (PM 1) S S1) : ∀ o j, PMe o j → gI S1 o j = gI S o j := fun o j h => f.2 _ _ (fun hp => by unfold PM at hp; unfold PMe at h; omega)
theorem M_home_go {n m l : Nat} {T : TT} {M0 X0 : MS} (hW : WT T) (hl : l ≤ 40) (hs : XS n m M0 X0) (hr : SR m M0 X0) : ∀ (d h fuel : Nat) (S : MS), l + 1 = h + d → d < fuel → MO S → tM S = T → gI S 0 66 = nI n → gI S 0 67 = gI X0 83 2 → ME M0 S → gI S 0 57 = 0 → WOK T (wM S 1) → wM S 1 3 = nI (h - 1) → 1 ≤ h →
    ∃ S1, fX11_fitsHome_22 fuel 0 (nI l) (nI h) S = some (b2i (homGo T M0 m d h (wM S 1)), S1) ∧ Fr (PM 1) S S1 := by
  have h24 := hs.2.1
  have hmn := hs.2.2.1
  intro d
  induction d with
  | zero =>
    intro h fuel S e1 e2 hX et h66 h67 he ht hk e3 h1
    obtain ⟨f, rfl⟩ : ∃ f, fuel = f + 1 := ⟨fuel - 1, by omega⟩
    refine ⟨S, ?_, Fr.rf⟩
    unfold fX11_fitsHome_22
    rw [if_pos (nI_lt (by omega) (by omega))]; rfl
  | succ d ih =>
    intro h fuel S e1 e2 hX et h66 h67 he ht hk e3 h1
    obtain ⟨f, rfl⟩ : ∃ f, fuel = f + 1 := ⟨fuel - 1, by omega⟩
    obtain ⟨S1, q1, q2, q3, q4, q5, q6⟩ := M_pass2 (r := 1) (dr := false) hX (by decide) et hW hk ht
    have hk1 : WOK T (passW T 0 false (wM S 1)) := WOK_pass hW hk (by rw [e3, show (20000 : Int32) = nI 20000 from rfl, nI_ltI (by omega) (by decide)]; omega)
    have pe := PM1_e q3
    have k66 : gI S1 0 66 = nI n := by rw [pe 0 66 (by unfold PMe; omega)]; exact h66
    have k67 : gI S1 0 67 = gI X0 83 2 := by rw [pe 0 67 (by unfold PMe; omega)]; exact h67
    have he1 : ME M0 S1 := fun o k a b => by rw [pe o k (by unfold PMe; omega)]; exact he o k a b
    have hX1 := hX.fr q3
    have ag := M_ag_go (h := h) (r0 := passW T 0 false (wM S 1) 4) (c0 := passW T 0 false (wM S 1) 5) (fr := (fpW T 0 false (wM S 1)).1) (fc := (fpW T 0 false (wM S 1)).2) hX1.1 hs hr k66 k67 he1 (by rw [← q2]; rfl) (by rw [← q2]; rfl) q5 q6 m 0 1000 (Nat.zero_add _).symm (by omega)
    have ag' : fX11_isSo 0 (nI h) S1 = _ := ag
    have q1' : fX11_passes 0 (1 : Int32) (0 : Int32) S = some S1 := q1
    unfold fX11_fitsHome_22
    rw [if_neg (by rw [nI_ltI (by omega) (by omega)]; omega), q1', Option.bind_some, ag', Option.bind_some, nI_1]
    show ∃ S2, _ = some (b2i (if agE M0 (nI h) (8 * passW T 0 false (wM S 1) 4 + passW T 0 false (wM S 1) 5) (8 * (fpW T 0 false (wM S 1)).1 + (fpW T 0 false (wM S 1)).2) m 0 = true then homGo T M0 m d (h + 1) (passW T 0 false (wM S 1)) else false), S2) ∧ _
    cases agE M0 (nI h) (8 * passW T 0 false (wM S 1) 4 + passW T 0 false (wM S 1) 5) (8 * (fpW T 0 false (wM S 1)).1 + (fpW T 0 false (wM S 1)).2) m 0 with
    | false => exact ⟨S1, rfl, q3⟩
    | true =>
      rw [if_neg b2i_t, if_pos rfl, ← q2]
      obtain ⟨S2, r1, r2⟩ := ih (h + 1) f S1 (by omega) (by omega) hX1 ((MO.told q3).trans et) k66 k67 he1 q4 (by rw [q2]; exact hk1) (by rw [q2, pass_3, e3, nI_1, show h - 1 + 1 = h + 1 - 1 from by omega]) (by omega)
      exact ⟨S2, r1, q3.tr r2⟩
theorem beg_ok {T : TT} {r c : Int32} (hW : WT T) (hc : cellB T r c = true) : WOK T (begW T r c) := by
  have hh := of_decide_eq_true hc
  have hn := nq_le hW.1
  have e7 : begW T r c 7 = nI (2 ^ nq T 1 - 1) := by
    show ((1 : Int32) <<< (sc T 1 &&& 31)) - 1 = _
    rw [← nq_I hW.1 (show 1 < 5 by decide), pow_dec _ (by omega)]
    exact nI_subN (b := 1) Nat.one_le_two_pow
  have h16 : 2 ^ nq T 1 ≤ 16 := Nat.pow_le_pow_right (n := 2) (by decide) hn.2.1
  refine ⟨⟨Int32.not_lt.mp hh.1, Int32.not_le.mp hh.2.1, Int32.not_lt.mp hh.2.2.1, Int32.not_le.mp hh.2.2.2⟩, ⟨?_, ?_, ?_, ?_⟩, ?_, ?_⟩
  · rw [e7]; exact nI_pos' (by omega)
  · rw [e7]; exact nI_lt (b := 16) (by omega) (by decide)
  · show (0 : Int32) ≤ 0; decide
  · show (0 : Int32) < 256; decide
  · show (0 : Int32) ≤ 0; decide
  · show (0 : Int32) ≤ 20000; decide
theorem X_isHome {t n m l : Nat} {T : TT} {M0 S : MS} {r c : Int32} (hW : WT T) (hl : l ≤ 40) (hX : XO t S) (et : tX S t = T) (hs : XS n m M0 S) (hr : SR m M0 S) (hll : lastGo M0 m 0 0 = nI l) (hc : cellB T r c = true) :
    ∃ S1, fX10_isHome 0 r c S = some (b2i (homGo T M0 m l 1 (begW T r c)), S1) ∧ Fr (PX 95) S S1 := by
  have h24 := hs.2.1
  have hmn := hs.2.2.1
  obtain ⟨S1, q1, q2, q3⟩ := X_begin (w := 95) (r := r) (c := c) hX.1 W95
  rw [et] at q2
  have hX1 := hX.fr W95 q3
  have e83 := PX95_x q3
  have hs1 : XS n m M0 S1 := hs.fr (e83 _ _ (by decide) (by decide)) (e83 _ _ (by decide) (by decide)) (fun j => e83 _ _ (by decide) (by decide)) (fun _ _ _ _ => rfl)
  have hr1 : SR m M0 S1 := fun k hk => by rw [e83 _ _ (by decide) (by decide)]; exact hr k hk
  have la := X_last_go hX1.1 hX1.2.1 hs1 hr1 m 0 1000 0 (Nat.zero_add _).symm (by omega)
  rw [hll] at la
  have la' : fX6_lastHour 83 S1 = some (nI l) := la
  obtain ⟨S2, r1, r2⟩ := X_home_go hW hl l 1 1000 S1 (by omega) (by omega) hX1 ((hX.told W95 q3).trans et) hs1 hr1 (by rw [q2]; exact beg_ok hW hc) (by rw [q2]; rfl) (Nat.le_refl _)
  have r1' : fX10_isHome_24 1000 0 (nI l) (1 : Int32) S1 = _ := r1
  refine ⟨S2, ?_, q3.tr r2⟩
  unfold fX10_isHome
  rw [rx_0_11 hX.1, rx_told hX.1, q1, Option.bind_some, rx_0_8 hX1.1, la', Option.bind_some, r1', q2]
theorem M_fits {n m l : Nat} {T : TT} {M0 X0 S : MS} {r c : Int32} (hW : WT T) (hl : l ≤ 40) (hs : XS n m M0 X0) (hr : SR m M0 X0) (hX : MO S) (et : tM S = T) (h66 : gI S 0 66 = nI n) (h67 : gI S 0 67 = gI X0 83 2) (he : ME M0 S) (ht : gI S 0 57 = 0) (hc : cellB T r c = true) :
    ∃ S1, fX11_fitsHome 0 r c (nI l) S = some (b2i (homGo T M0 m l 1 (begW T r c)), S1) ∧ Fr (PM 1) S S1 := by
  obtain ⟨S1, q1, q2, q3⟩ := M_starts (a := 1) hX.1 (by decide)
  rw [et] at q2
  have q1' : fX11_starts 0 (1 : Int32) S = some S1 := q1
  have f3 : Fr (PM 1) S (pI (pI S1 30 1 r) 31 1 c) := ((q3.mo PMw_M).pI (PM_w (by decide) (by decide))).pI (PM_w (by decide) (by decide))
  have ew : wM (pI (pI S1 30 1 r) 31 1 c) 1 = begW T r c := by
    rw [show (31 : Nat) = mWc 5 from rfl, wM_own (by decide) (by decide), show (30 : Nat) = mWc 4 from rfl, wM_own (by decide) (by decide), q2]
    funext k
    unfold up begW
    by_cases k5 : k = 5
    · subst k5; rfl
    · by_cases k4 : k = 4
      · subst k4; rfl
      · simp only [k4, k5, if_false]
  have pe := PM1_e f3
  have hM1 := hX.1.of q3.1
  obtain ⟨S2, r1, r2⟩ := M_home_go hW hl hs hr l 1 1000 _ (by omega) (by omega) (hX.fr f3) ((MO.told f3).trans et) (by rw [pe 0 66 (by unfold PMe; omega)]; exact h66) (by rw [pe 0 67 (by unfold PMe; omega)]; exact h67) (fun o k a b => by rw [pe o k (by unfold PMe; omega)]; exact he o k a b) (by rw [f3.2 _ _ (fun hp => by unfold PM at hp; omega)]; exact ht) (by rw [ew]; exact beg_ok hW hc) (by rw [ew]; rfl) (Nat.le_refl _)
  have r1' : fX11_fitsHome_22 1000 0 (nI l) (1 : Int32) (pI (pI S1 30 1 r) 31 1 c) = _ := r1
  refine ⟨S2, ?_, f3.tr r2⟩
  unfold fX11_fitsHome fX11_fitsHome_19
  rw [q1', Option.bind_some, gR_pI, mr_46 hM1, mr_47 hM1, lm_30, lm_31, show bnd (1 : Int32) 23 = true from rfl, if_pos rfl, if_pos rfl, show (1 : Int32).toNatClampNeg = 1 from rfl, r1', ew]
