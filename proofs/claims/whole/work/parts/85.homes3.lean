/-! ===== where she was at first: all cells ===== -/
def hmF (T : TT) (M0 : MS) (m l : Nat) (k : Nat) : Bool := cellB T (nI (k / 8)) (nI (k % 8)) && !wallB T (nI (k / 8)) (nI (k % 8)) && homGo T M0 m l 1 (begW T (nI (k / 8)) (nI (k % 8)))
def fstGo (f : Nat → Bool) : Nat → Nat → Int32
  | 0, _ => -2
  | d + 1, i => if f i = true then 10 * nI (i / 8) + nI (i % 8) else fstGo f d (i + 1)
theorem fst_no {f : Nat → Bool} : ∀ (d D i : Nat), (∀ k, i ≤ k → k < i + d → f k = false) → fstGo f (d + D) i = fstGo f D (i + d)
  | 0, D, i, _ => by rw [Nat.zero_add, Nat.add_zero]
  | d + 1, D, i, h => by
    rw [show d + 1 + D = (d + D) + 1 from by omega]
    show (if f i = true then _ else fstGo f (d + D) (i + 1)) = _
    rw [h i (Nat.le_refl _) (by omega), if_neg (by decide), fst_no d D (i + 1) (fun k h1 h2 => h k (by omega) (by omega)), show i + 1 + d = i + (d + 1) from by omega]
theorem hm_no {T : TT} {M0 : MS} {m l k : Nat} (h : cellB T (nI (k / 8)) (nI (k % 8)) = false) : hmF T M0 m l k = false := by unfold hmF; rw [h]; rfl
/-- what stays over the cells, in the class -/
def XC (t n m : Nat) (T : TT) (M0 S : MS) : Prop := XO t S ∧ tX S t = T ∧ XS n m M0 S ∧ SR m M0 S
theorem XC.fr {t n m : Nat} {T : TT} {M0 S S1 : MS} (h : XC t n m T M0 S) (f : Fr (PX 95) S S1) : XC t n m T M0 S1 := by
  obtain ⟨h1, h2, h3, h4⟩ := h
  have e83 := PX95_x f
  exact ⟨h1.fr W95 f, (h1.told W95 f).trans h2, h3.fr (e83 _ _ (by decide) (by decide)) (e83 _ _ (by decide) (by decide)) (fun j => e83 _ _ (by decide) (by decide)) (fun _ _ _ _ => rfl), fun k hk => by rw [e83 _ _ (by decide) (by decide)]; exact h4 k hk⟩
theorem X_hm_in {t n m l R C r : Nat} {T : TT} {M0 S0 : MS} {z : Int32} {K : Nat → Int32 → Int32 → Int32 → MS → Option (Int32 × MS)} (hW : WT T) (hl : l ≤ 40) (hll : lastGo M0 m 0 0 = nI l) (e8 : sc T 8 = nI R) (e9 : sc T 9 = nI C) (hR : R ≤ 8) (hC : C ≤ 8) (hr8 : r < R) (hz : z = 0 ∨ z = 1) : ∀ (d c fuel : Nat) (a : Int32) (S : MS), C = c + d → d < fuel → XC t n m T M0 S → Fr (PX 95) S0 S →
    ∃ S1, Fr (PX 95) S0 S1 ∧ XC t n m T M0 S1 ∧ ((z = 0 ∧ fX10_homes_36 K fuel 0 z a (nI r) (nI c) S = K 0 z (cnt (hmF T M0 m l) d (8 * r + c) a) (nI (r + 1)) S1) ∨ (z = 1 ∧ ((∃ v, fX10_homes_36 K fuel 0 z a (nI r) (nI c) S = some (v, S1) ∧ ∀ D, fstGo (hmF T M0 m l) (d + D) (8 * r + c) = v) ∨ (fX10_homes_36 K fuel 0 z a (nI r) (nI c) S = K 0 z a (nI (r + 1)) S1 ∧ ∀ k, 8 * r + c ≤ k → k < 8 * r + c + d → hmF T M0 m l k = false)))) := by
  intro d
  induction d with
  | zero =>
    intro c fuel a S e1 e2 hx hf
    obtain ⟨f, rfl⟩ : ∃ f, fuel = f + 1 := ⟨fuel - 1, by omega⟩
    refine ⟨S, hf, hx, ?_⟩
    have s9 : gI S t 9 = nI C := by rw [← e9, ← hx.2.1]; rfl
    have e : fX10_homes_36 K (f + 1) 0 z a (nI r) (nI c) S = K 0 z a (nI (r + 1)) S := by
      unfold fX10_homes_36
      rw [rx_told hx.1.1, s9, e1, Nat.add_zero, if_pos (Int32.le_refl _), nI_1]
    rcases hz with hz | hz
    · exact Or.inl ⟨hz, e⟩
    · exact Or.inr ⟨hz, Or.inr ⟨e, fun k h1 h2 => by omega⟩⟩
  | succ d ih =>
    intro c fuel a S e1 e2 hx hf
    obtain ⟨f, rfl⟩ : ∃ f, fuel = f + 1 := ⟨fuel - 1, by omega⟩
    have hX := hx.1
    have s9 : gI S t 9 = nI C := by rw [← e9, ← hx.2.1]; rfl
    have hcell : cellB T (nI r) (nI c) = true := cell_yes e8 e9 hR hC hr8 (by omega)
    have hdm := div8 (r := r) (c := c) (by omega)
    have wall := X_isWall (r := nI r) (c := nI c) hX.1 hX.1.1 (by rw [hx.2.1]; exact hW.2.2.2.1)
    rw [hx.2.1, hcell, Bool.true_and] at wall
    have hh : hmF T M0 m l (8 * r + c) = (!wallB T (nI r) (nI c) && homGo T M0 m l 1 (begW T (nI r) (nI c))) := by
      unfold hmF; rw [hdm.1, hdm.2, hcell, Bool.true_and]
    -- what follows where this cell is none
    have go : ∀ S2 : MS, XC t n m T M0 S2 → Fr (PX 95) S0 S2 → hmF T M0 m l (8 * r + c) = false → ∃ S1, Fr (PX 95) S0 S1 ∧ XC t n m T M0 S1 ∧ ((z = 0 ∧ fX10_homes_36 K f 0 z a (nI r) (nI (c + 1)) S2 = K 0 z (cnt (hmF T M0 m l) (d + 1) (8 * r + c) a) (nI (r + 1)) S1) ∨ (z = 1 ∧ ((∃ v, fX10_homes_36 K f 0 z a (nI r) (nI (c + 1)) S2 = some (v, S1) ∧ ∀ D, fstGo (hmF T M0 m l) (d + 1 + D) (8 * r + c) = v) ∨ (fX10_homes_36 K f 0 z a (nI r) (nI (c + 1)) S2 = K 0 z a (nI (r + 1)) S1 ∧ ∀ k, 8 * r + c ≤ k → k < 8 * r + c + (d + 1) → hmF T M0 m l k = false)))) := by
      intro S2 hx2 hf2 hno
      obtain ⟨S1, i1, i2, i3⟩ := ih (c + 1) f a S2 (by omega) (by omega) hx2 hf2
      refine ⟨S1, i1, i2, ?_⟩
      rcases i3 with ⟨h1, h2⟩ | ⟨h1, ⟨v, h2, h3⟩ | ⟨h2, h3⟩⟩
      · left
        refine ⟨h1, h2.trans ?_⟩
        show _ = K 0 z (cnt (hmF T M0 m l) d (8 * r + c + 1) (if hmF T M0 m l (8 * r + c) = true then a + 1 else a)) (nI (r + 1)) S1
        rw [hno]; rfl
      · right
        refine ⟨h1, Or.inl ⟨v, h2, fun D => ?_⟩⟩
        rw [show d + 1 + D = (d + D) + 1 from by omega]
        show (if hmF T M0 m l (8 * r + c) = true then _ else fstGo (hmF T M0 m l) (d + D) (8 * r + c + 1)) = v
        rw [hno, if_neg (by decide)]; exact h3 D
      · right
        refine ⟨h1, Or.inr ⟨h2, fun k k1 k2 => ?_⟩⟩
        by_cases hk : k = 8 * r + c
        · rw [hk]; exact hno
        · exact h3 k (by omega) (by omega)
    unfold fX10_homes_36 fX10_homes_87
    simp only [rx_told hX.1, s9, nle (show C < 2 ^ 31 by omega) (show c < C by omega), if_false, wall, Option.bind_some, nI_1]
    cases hwb : wallB T (nI r) (nI c) with
    | true =>
      rw [if_neg b2i_t]
      exact go S hx hf (by rw [hh, hwb]; rfl)
    | false =>
      rw [if_pos b2i_f]
      obtain ⟨S2, a1, a2⟩ := X_isHome hW hl hX hx.2.1 hx.2.2.1 hx.2.2.2 hll hcell
      rw [a1, Option.bind_some]
      have hx2 := hx.fr a2
      have hf2 := hf.tr a2
      have hh2 : hmF T M0 m l (8 * r + c) = homGo T M0 m l 1 (begW T (nI r) (nI c)) := by rw [hh, hwb]; rfl
      cases hg : homGo T M0 m l 1 (begW T (nI r) (nI c)) with
      | false =>
        exact go S2 hx2 hf2 (by rw [hh2, hg])
      | true =>
        rw [hg] at hh2
        rcases hz with hz | hz
        · obtain ⟨S1, i1, i2, i3⟩ := ih (c + 1) f (a + 1) S2 (by omega) (by omega) hx2 hf2
          rcases i3 with ⟨h1, h2⟩ | ⟨h1, -⟩
          · refine ⟨S1, i1, i2, Or.inl ⟨hz, ?_⟩⟩
            show (if b2i true = 0 then _ else if z = 1 then _ else _) = K 0 z (cnt (hmF T M0 m l) d (8 * r + c + 1) (if hmF T M0 m l (8 * r + c) = true then a + 1 else a)) (nI (r + 1)) S1
            rw [if_neg b2i_t, if_neg (by rw [hz]; decide), hh2, if_pos rfl]; exact h2
          · rw [hz] at h1; exact absurd h1 (by decide)
        · refine ⟨S2, hf2, hx2, Or.inr ⟨hz, Or.inl ⟨10 * nI r + nI c, ?_, fun D => ?_⟩⟩⟩
          · show (if b2i true = 0 then _ else if z = 1 then _ else _) = _
            rw [if_neg b2i_t, if_pos hz]
          · rw [show d + 1 + D = (d + D) + 1 from by omega]
            show (if hmF T M0 m l (8 * r + c) = true then 10 * nI ((8 * r + c) / 8) + nI ((8 * r + c) % 8) else _) = _
            rw [hh2, if_pos rfl, hdm.1, hdm.2]
theorem X_hm_out {t n m l R C : Nat} {T : TT} {M0 S0 : MS} {z : Int32} (hW : WT T) (hl : l ≤ 40) (hll : lastGo M0 m 0 0 = nI l) (e8 : sc T 8 = nI R) (e9 : sc T 9 = nI C) (hR : R ≤ 8) (hC : C ≤ 8) (hz : z = 0 ∨ z = 1) : ∀ (d r fuel : Nat) (a : Int32) (S : MS), R = r + d → d < fuel → XC t n m T M0 S → Fr (PX 95) S0 S →
    ∃ S1, fX10_homes_22 fuel 0 z a (nI r) S = some (if z = 0 then cnt (hmF T M0 m l) (64 - 8 * r) (8 * r) a else fstGo (hmF T M0 m l) (64 - 8 * r) (8 * r), S1) ∧ Fr (PX 95) S0 S1 := by
  intro d
  induction d with
  | zero =>
    intro r fuel a S e1 e2 hx hf
    obtain ⟨f, rfl⟩ : ∃ f, fuel = f + 1 := ⟨fuel - 1, by omega⟩
    refine ⟨S, ?_, hf⟩
    have s8 : gI S t 8 = nI R := by rw [← e8, ← hx.2.1]; rfl
    have hno : ∀ k, 8 * r ≤ k → k < 8 * r + (64 - 8 * r) → hmF T M0 m l k = false := fun k h1 h2 => hm_no (cell_no e8 e9 hR hC (by omega) (by omega) (Or.inl (by omega)))
    unfold fX10_homes_22
    rw [rx_told hx.1.1, s8, e1, Nat.add_zero, if_pos (Int32.le_refl _), cnt_no _ _ _ hno]
    have ef := fst_no (f := hmF T M0 m l) (64 - 8 * r) 0 (8 * r) hno
    rw [Nat.add_zero] at ef
    rw [ef]
    split <;> rfl
  | succ d ih =>
    intro r fuel a S e1 e2 hx hf
    obtain ⟨f, rfl⟩ : ∃ f, fuel = f + 1 := ⟨fuel - 1, by omega⟩
    have s8 : gI S t 8 = nI R := by rw [← e8, ← hx.2.1]; rfl
    have hno : ∀ k, 8 * r + C ≤ k → k < 8 * r + C + (8 - C) → hmF T M0 m l k = false := fun k h1 h2 => hm_no (cell_no e8 e9 hR hC (by omega) (by omega) (Or.inr (by omega)))
    have e64 : 64 - 8 * r = C + ((8 - C) + (64 - 8 * (r + 1))) := by omega
    obtain ⟨S1, i1, i2, i3⟩ := X_hm_in (K := fX10_homes_22 f) (S0 := S0) hW hl hll e8 e9 hR hC (show r < R by omega) hz C 0 1000 a S (Nat.zero_add _).symm (by omega) hx hf
    unfold fX10_homes_22
    rw [rx_told hx.1.1, s8, if_neg (nle (by omega) (by omega))]
    rcases i3 with ⟨h1, h2⟩ | ⟨h1, ⟨v, h2, h3⟩ | ⟨h2, h3⟩⟩
    · have h2' : fX10_homes_36 (fX10_homes_22 f) 1000 0 z a (nI r) (0 : Int32) S = _ := h2
      rw [h2']
      obtain ⟨S2, r1, r2⟩ := ih (r + 1) f (cnt (hmF T M0 m l) C (8 * r + 0) a) S1 (by omega) (by omega) i2 i1
      refine ⟨S2, ?_, r2⟩
      rw [r1, if_pos h1, if_pos h1, e64, cnt_add, cnt_add, cnt_no (8 - C) _ _ hno, show 8 * r + C + (8 - C) = 8 * (r + 1) from by omega]
      rfl
    · have h2' : fX10_homes_36 (fX10_homes_22 f) 1000 0 z a (nI r) (0 : Int32) S = _ := h2
      rw [h2']
      refine ⟨S1, ?_, i1⟩
      rw [if_neg (by rw [h1]; decide), e64]
      have e3 := h3 ((8 - C) + (64 - 8 * (r + 1)))
      rw [show 8 * r + 0 = 8 * r from rfl] at e3
      rw [e3]
    · have h2' : fX10_homes_36 (fX10_homes_22 f) 1000 0 z a (nI r) (0 : Int32) S = _ := h2
      rw [h2']
      obtain ⟨S2, r1, r2⟩ := ih (r + 1) f a S1 (by omega) (by omega) i2 i1
      refine ⟨S2, ?_, r2⟩
      have hz0 : ¬ z = 0 := by rw [h1]; decide
      rw [r1, if_neg hz0, if_neg hz0, e64, fst_no C _ (8 * r) (fun k k1 k2 => h3 k (by omega) (by omega)), fst_no (8 - C) _ _ hno, show 8 * r + C + (8 - C) = 8 * (r + 1) from by omega]
theorem M_hm_go {n m l : Nat} {T : TT} {M0 X0 S0 : MS} {z : Int32} (hW : WT T) (hl : l ≤ 40) (hs : XS n m M0 X0) (hr : SR m M0 X0) (hz : z = 0 ∨ z = 1) : ∀ (d k fuel j : Nat) (first : Int32) (S : MS), 64 = k + d → d < fuel → j ≤ k → MO S → tM S = T → gI S 0 66 = nI n → gI S 0 67 = gI X0 83 2 → ME M0 S → gI S 0 57 = 0 → Fr (PM 1) S0 S →
    ∃ S1, fX11_homes_144 fuel 0 z (nI l) (nI j) first (nI k) S = some (if z = 0 then cnt (hmF T M0 m l) d k (nI j) else if j = 0 then (if fstGo (hmF T M0 m l) d k = -2 then first else fstGo (hmF T M0 m l) d k) else first, S1) ∧ Fr (PM 1) S0 S1 := by
  intro d
  induction d with
  | zero =>
    intro k fuel j first S e1 e2 hj hX et h66 h67 he ht hf
    obtain ⟨f, rfl⟩ : ∃ f, fuel = f + 1 := ⟨fuel - 1, by omega⟩
    refine ⟨S, ?_, hf⟩
    unfold fX11_homes_144
    rw [show k = 64 from by omega, if_pos (by decide)]
    rcases hz with rfl | rfl
    · rfl
    · rw [if_neg one0, if_neg one0]
      by_cases c : j = 0
      · rw [if_pos c, if_pos (show fstGo (hmF T M0 m l) 0 64 = -2 from rfl)]
      · rw [if_neg c]
  | succ d ih =>
    intro k fuel j first S e1 e2 hj hX et h66 h67 he ht hf
    obtain ⟨f, rfl⟩ : ∃ f, fuel = f + 1 := ⟨fuel - 1, by omega⟩
    obtain ⟨m1, m2⟩ := nI_mod8 (k := k) (by omega)
    have hi : ¬ (64 : Int32) ≤ nI k := nle (n := 64) (by decide) (by omega)
    have skip : ∀ S2 : MS, MO S2 → tM S2 = T → gI S2 0 66 = nI n → gI S2 0 67 = gI X0 83 2 → ME M0 S2 → gI S2 0 57 = 0 → Fr (PM 1) S0 S2 → hmF T M0 m l k = false → ∃ S1, fX11_homes_144 f 0 z (nI l) (nI j) first (nI (k + 1)) S2 = some (if z = 0 then cnt (hmF T M0 m l) (d + 1) k (nI j) else if j = 0 then (if fstGo (hmF T M0 m l) (d + 1) k = -2 then first else fstGo (hmF T M0 m l) (d + 1) k) else first, S1) ∧ Fr (PM 1) S0 S1 := by
      intro S2 a1 a2 a3 a4 a5 a6 a7 hno
      obtain ⟨S1, q1, q2⟩ := ih (k + 1) f j first S2 (by omega) (by omega) (by omega) a1 a2 a3 a4 a5 a6 a7
      refine ⟨S1, ?_, q2⟩
      have ec : cnt (hmF T M0 m l) (d + 1) k (nI j) = cnt (hmF T M0 m l) d (k + 1) (nI j) := by
        show cnt _ d (k + 1) (if hmF T M0 m l k = true then _ else _) = _
        rw [hno]; rfl
      have ef : fstGo (hmF T M0 m l) (d + 1) k = fstGo (hmF T M0 m l) d (k + 1) := by
        show (if hmF T M0 m l k = true then _ else _) = _
        rw [hno]; rfl
      rw [ec, ef]; exact q1
    unfold fX11_homes_144 fX11_homes_219 fX11_homes_216 fX11_homes_219
    rw [if_neg hi, m2, m1, M_isCell hX.1, et, Option.bind_some, nI_1, nI_1]
    cases hc : cellB T (nI (k / 8)) (nI (k % 8)) with
    | false =>
      rw [if_pos b2i_f]
      exact skip S hX et h66 h67 he ht hf (hm_no hc)
    | true =>
      have wall := M_isWall (r := nI (k / 8)) (c := nI (k % 8)) hX.1 (by rw [et]; exact hW.2.2.2.1) hX.2.2 (by rw [et]; exact hc)
      rw [et] at wall
      rw [if_neg b2i_t, wall, Option.bind_some]
      cases hwb : wallB T (nI (k / 8)) (nI (k % 8)) with
      | true =>
        rw [if_neg b2i_t]
        exact skip S hX et h66 h67 he ht hf (by unfold hmF; rw [hc, hwb]; rfl)
      | false =>
        rw [if_pos b2i_f]
        obtain ⟨S2, a1, a2⟩ := M_fits hW hl hs hr hX et h66 h67 he ht hc
        have pe := PM1_e a2
        have k66 : gI S2 0 66 = nI n := by rw [pe 0 66 (by unfold PMe; omega)]; exact h66
        have k67 : gI S2 0 67 = gI X0 83 2 := by rw [pe 0 67 (by unfold PMe; omega)]; exact h67
        have he2 : ME M0 S2 := fun o k a b => by rw [pe o k (by unfold PMe; omega)]; exact he o k a b
        have ht2 : gI S2 0 57 = 0 := by rw [a2.2 _ _ (fun hp => by unfold PM at hp; omega)]; exact ht
        rw [a1, Option.bind_some]
        have hh2 : hmF T M0 m l k = homGo T M0 m l 1 (begW T (nI (k / 8)) (nI (k % 8))) := by unfold hmF; rw [hc, hwb]; rfl
        cases hg : homGo T M0 m l 1 (begW T (nI (k / 8)) (nI (k % 8))) with
        | false =>
          exact skip S2 (hX.fr a2) ((MO.told a2).trans et) k66 k67 he2 ht2 (hf.tr a2) (by rw [hh2, hg])
        | true =>
          rw [hg] at hh2
          have ec : cnt (hmF T M0 m l) (d + 1) k (nI j) = cnt (hmF T M0 m l) d (k + 1) (nI (j + 1)) := by
            show cnt _ d (k + 1) (if hmF T M0 m l k = true then nI j + 1 else _) = _
            rw [hh2, nI_1]; rfl
          have ef : fstGo (hmF T M0 m l) (d + 1) k = 10 * nI (k / 8) + nI (k % 8) := by
            show (if hmF T M0 m l k = true then _ else _) = _
            rw [hh2]; rfl
          have ene : ¬ (10 * nI (k / 8) + nI (k % 8)) = -2 := by
            rw [show (10 : Int32) = nI 10 from rfl, nI_mul, nI_add]
            intro e
            have := nI_pos' (n := 10 * (k / 8) + k % 8) (by omega)
            rw [e] at this; exact absurd this (by decide)
          show ∃ S1, (if b2i true = 0 then _ else if nI j = 0 then _ else _) = _ ∧ _
          rw [if_neg b2i_t, ec, ef]
          have fin : ∀ fi : Int32, ∃ S1, fX11_homes_144 f 0 z (nI l) (nI (j + 1)) fi (nI (k + 1)) S2 = some (if z = 0 then cnt (hmF T M0 m l) d (k + 1) (nI (j + 1)) else fi, S1) ∧ Fr (PM 1) S0 S1 := by
            intro fi
            obtain ⟨S1, q1, q2⟩ := ih (k + 1) f (j + 1) fi S2 (by omega) (by omega) (by omega) (hX.fr a2) ((MO.told a2).trans et) k66 k67 he2 ht2 (hf.tr a2)
            rw [if_neg (show ¬ j + 1 = 0 by omega)] at q1
            exact ⟨S1, q1, q2⟩
          by_cases c0 : j = 0
          · subst c0
            rw [if_pos (show nI 0 = 0 from rfl)]
            obtain ⟨S1, q1, q2⟩ := fin (10 * nI (k / 8) + nI (k % 8))
            refine ⟨S1, ?_, q2⟩
            rw [if_neg ene, if_pos rfl]; exact q1
          · have cn : ¬ nI j = 0 := by rw [show (0 : Int32) = nI 0 from rfl, nI_eq (by omega) (by decide)]; exact c0
            rw [if_neg cn, if_neg c0]
            exact fin first
theorem fst_two {f : Nat → Bool} {d i : Nat} : (if fstGo f d i = -2 then (-2 : Int32) else fstGo f d i) = fstGo f d i := by
  split
  · rename_i h; exact h.symm
  · rfl
theorem sim_26 : Sim_26 Inv := by
  intro SX SM z0 ⟨t, T, h⟩
  have hv := h.th
  have hiv : Inv SX (th0 SM) := ⟨t, T, hv⟩
  obtain ⟨hX, hM, ex, em, hW, h57, hE⟩ := hv.1
  obtain ⟨n, hn, s1, s2, s3, s4, s5⟩ := hv.2.2.2.2.1
  unfold fX10_homes fX11_homes
  by_cases c1 : z0 < 0
  · rw [if_pos c1, if_pos c1]; exact ⟨_, _, rfl, rfl, rfl, hiv⟩
  rw [if_neg c1, if_neg c1]
  by_cases c2 : z0 ≤ 1
  · rw [if_pos c2, if_pos c2]
    have hz : z0 = 0 ∨ z0 = 1 := i01 c1 (Int32.not_lt.mpr c2)
    obtain ⟨m, hs⟩ : ∃ m, XS n m (th0 SM) SX := by
      rcases s4 with s4 | ⟨m, hm, s4⟩
      · exact ⟨n, s1, hn, Nat.le_refl _, Or.inl ⟨s3.trans s4, rfl⟩, s5⟩
      · exact ⟨m, s1, hn, hm, Or.inr (s3.trans s4), s5⟩
    have hmn := hs.2.2.1
    -- all are not struck
    obtain ⟨S1, a1, a2, a3⟩ := X_zero_go (t := t) (S0 := SX) 24 0 1000 SX rfl (by decide) hX.1 Fr.rf (fun k hk => by omega)
    obtain ⟨M1, b1, b2, b3⟩ := M_zero_go (z := z0) (x2 := 0) (S0 := th0 SM) hs m 0 1000 (th0 SM) (Nat.zero_add _).symm (by omega) hM.1 s2 s3.symm Fr.rf (fun k hk => by omega)
    have x86 : ∀ o j, o ≠ 86 → gI S1 o j = gI SX o j := fun o j ho => a2.2 _ _ (fun hp => ho hp)
    have x47 : ∀ o j, o ≠ 47 → gI M1 o j = gI (th0 SM) o j := fun o j ho => b2.2 _ _ (fun hp => ho hp)
    have hs1 : XS n m M1 S1 := hs.fr (x86 _ _ (by decide)) (x86 _ _ (by decide)) (fun j => x86 _ _ (by decide)) (fun o k p q => x47 _ _ (by omega))
    have hX1 : RX t S1 := hX.1.of a2.1
    have hK1 : KX S1 := hX.2.1.fr a2 (fun q hq hp => k86 q hq hp)
    have hM1 : MR M1 := hM.1.of b2.1
    -- struck ones
    obtain ⟨S2, M2, d1, d2, d3, d4, d5⟩ := st_go (z := z0) (x2 := 0) m 1000 S1 M1 (Nat.le_refl _) (by omega) hX1 hK1 hM1 hs1 (fun k hk => ⟨by rw [a3 k (by omega), b3 k hk], Or.inl (b3 k hk)⟩)
    have y86 : ∀ o j, o ≠ 86 → gI S2 o j = gI S1 o j := fun o j ho => d3.2 _ _ (fun hp => ho hp)
    have y47 : ∀ o j, o ≠ 47 → gI M2 o j = gI M1 o j := fun o j ho => d4.2 _ _ (fun hp => ho hp)
    have hs2 : XS n m M2 S2 := hs1.fr (y86 _ _ (by decide)) (y86 _ _ (by decide)) (fun j => y86 _ _ (by decide)) (fun o k p q => y47 _ _ (by omega))
    have fx2 : Fr QX SX S2 := (a2.mo (fun o j (hp : o = 86) => by unfold QX; omega)).tr (d3.mo (fun o j (hp : o = 86) => by unfold QX; omega))
    have fm2 : Fr QM (th0 SM) M2 := (b2.mo (fun o j (hp : o = 47) => by unfold QM; omega)).tr (d4.mo (fun o j (hp : o = 47) => by unfold QM; omega))
    have e87 : wX S2 87 = wX SX 87 := by
      rw [Fr.wld d3 (fun o j p q (hp : o = 86) => by omega), Fr.wld a2 (fun o j p q (hp : o = 86) => by omega)]
    have e0 : wM M2 0 = wM (th0 SM) 0 := by
      rw [wM_fr d4 (fun o j p q (hp : o = 47) => by omega), wM_fr b2 (fun o j p q (hp : o = 47) => by omega)]
    have hv2 := hv.quiet fx2 e87 fm2 e0
    obtain ⟨hX2, hM2, ex2, em2, -, h572, -⟩ := hv2.1
    have k66 : gI M2 0 66 = nI n := by rw [y47 _ _ (by decide), x47 _ _ (by decide)]; exact s2
    have k67 : gI M2 0 67 = gI S2 83 2 := by rw [y47 _ _ (by decide), x47 _ _ (by decide), y86 _ _ (by decide), x86 _ _ (by decide)]; exact s3.symm
    obtain ⟨l, hl, hll⟩ := last_rng hs2 m 0 0 (Nat.zero_add _).symm ⟨0, by decide, rfl⟩
    have hla := M_last_go (z := z0) hM2.1 hs2 k66 k67 m 0 1000 0 (Nat.zero_add _).symm (by omega)
    rw [hll] at hla
    obtain ⟨R, C, -, hR, -, hC, e8, e9⟩ := sides hW.2.2.2.1
    obtain ⟨S3, f1, f2⟩ := X_hm_out (S0 := S2) hW hl hll e8 e9 hR hC hz R 0 1000 0 S2 (Nat.zero_add _).symm (by omega) ⟨hX2, ex2, hs2, d5⟩ Fr.rf
    obtain ⟨M3, g1, g2⟩ := M_hm_go (S0 := M2) hW hl hs2 d5 hz 64 0 1000 0 (-2) M2 rfl (by decide) (Nat.le_refl _) hM2 em2 k66 k67 (fun _ _ _ _ => rfl) h572 Fr.rf
    have a1' : fX6_settle_2 1000 83 (0 : Int32) SX = _ := a1
    have b1' : fX11_homes_20 1000 0 z0 (0 : Int32) (0 : Int32) (th0 SM) = _ := b1
    have hla' : fX11_homes_91 1000 0 z0 (0 : Int32) (0 : Int32) M2 = _ := hla
    have f1' : fX10_homes_22 1000 0 z0 (0 : Int32) (0 : Int32) S2 = _ := f1
    have g1' : fX11_homes_144 1000 0 z0 (nI l) (0 : Int32) (-2) (0 : Int32) M2 = _ := g1
    have em24 : (if (24 : Int32) < nI m then (24 : Int32) else nI m) = nI m := if_neg (by rw [show (24 : Int32) = nI 24 from rfl, nI_ltI (by decide) (by omega)]; omega)
    unfold fX6_settle
    rw [rx_0_8 hX.1, a1', X_reach hX1 hs1, Option.bind_some, em24, d1, Option.bind_some, f1', b1', d2, hla', g1']
    refine ⟨_, _, rfl, rfl, ?_, t, T, hv2.run f2 g2⟩
    show (if z0 = 0 then cnt (hmF T M2 m l) (64 - 8 * 0) (8 * 0) 0 else fstGo (hmF T M2 m l) (64 - 8 * 0) (8 * 0)) = (if z0 = 0 then cnt (hmF T M2 m l) 64 0 (nI 0) else if 0 = 0 then (if fstGo (hmF T M2 m l) 64 0 = -2 then (-2 : Int32) else fstGo (hmF T M2 m l) 64 0) else -2)
    rw [if_pos rfl, fst_two]; rfl
  · rw [if_neg c2, if_neg c2]; exact ⟨_, _, rfl, rfl, rfl, hiv⟩
