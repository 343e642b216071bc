/-! ===== where she was at first: what is known ===== -/
def XS (n m : Nat) (M0 S : MS) : Prop := gI S 84 3 = nI n ∧ n ≤ 24 ∧ m ≤ n ∧ ((gI S 83 2 = -1 ∧ m = n) ∨ gI S 83 2 = nI m) ∧ (∀ k, k < n → SN S M0 k)
def SR (m : Nat) (M0 S : MS) : Prop := ∀ k, k < m → gI S 86 k = gI M0 47 k ∧ (gI M0 47 k = 0 ∨ gI M0 47 k = 1)
theorem nI_neg {m : Nat} (h : m < 2 ^ 31) : ¬ nI m = -1 := fun e => by have := nI_pos' h; rw [e] at this; exact absurd this (by decide)
theorem X_reach {t n m : Nat} {M0 S : MS} (h : RX t S) (hs : XS n m M0 S) : fX6_reach 83 S = some (nI m) := by
  obtain ⟨h1, h2, h3, h4, h5⟩ := hs
  unfold fX6_reach fX7_size
  rw [rx_83_0 h, h1]
  rcases h4 with ⟨h4, h6⟩ | h4
  · rw [if_pos h4, h6]; rfl
  · rw [h4, if_neg (nI_neg (by omega))]
theorem X_g85 {t n m k c : Nat} {M0 S : MS} (h : RX t S) (hk : KX S) (hs : XS n m M0 S) (hkn : k < n) (hc : c < 5) : fX7_get 84 (nI k) (nI c) S = some (gI S 85 (k * 5 + c)) := by
  have h2 := hs.2.1
  rw [X_get (T84 h hk hs.1 hs.2.1) hc, if_pos ⟨nI_pos' (by omega), nI_lt hkn (by omega)⟩, nI_clamp (by omega)]
theorem SN_who {S M0 : MS} {k : Nat} (h : SN S M0 k) (hk : k ≤ 24) : (gI S 85 (k * 5 + 1) = 2) ↔ ¬ gI M0 46 k = -1 := by
  rcases h with ⟨h1, h2, h3, -⟩ | ⟨j, hj, h1, h2, h3⟩
  · rw [h1, h2]
    constructor
    · intro h; rcases h3 with h3 | h3 <;> rw [h3] at h <;> exact absurd h (by decide)
    · intro h; exact absurd rfl h
  · rw [h1, h2]
    exact ⟨fun _ => nI_neg (by omega), fun _ => rfl⟩
def knE (M0 : MS) (k : Nat) : Bool := decide (gI M0 47 k = 0 ∧ gI M0 46 k = -1)
theorem X_known {t n m k : Nat} {M0 S : MS} (h : RX t S) (hx : KX S) (hs : XS n m M0 S) (hr : SR m M0 S) (hk : k < m) : fX6_isKnown 83 (nI k) S = some (b2i (knE M0 k)) := by
  have h2 := hs.2.1
  have h3 := hs.2.2.1
  have g1 : fX7_get 84 (nI k) (1 : Int32) S = _ := X_g85 (c := 1) h hx hs (show k < n by omega) (by decide)
  have hw := SN_who (hs.2.2.2.2 k (by omega)) (by omega)
  unfold fX6_isKnown knE
  rw [if_neg (show ¬ (24 : Int32) ≤ nI k from nle (n := 24) (by decide) (by omega)), rx_83_1 h, rx_83_0 h, lx_86, bnd_nI (show k < 24 by omega) (by decide), if_pos rfl, nI_clamp (by omega), (hr k hk).1, g1, Option.bind_some]
  by_cases c1 : gI M0 47 k = 0
  · rw [if_pos c1]
    by_cases c2 : gI M0 46 k = -1
    · rw [if_neg (fun e => hw.mp e c2), decide_eq_true ⟨c1, c2⟩]; rfl
    · rw [if_pos (hw.mpr c2), decide_eq_false (fun e => c2 e.2)]; rfl
  · rw [if_neg c1, decide_eq_false (fun e => c1 e.1)]; rfl
def lastGo (M0 : MS) : Nat → Nat → Int32 → Int32
  | 0, _, a => a
  | d + 1, k, a => lastGo M0 d (k + 1) (if knE M0 k = true then (if a < gI M0 42 k then gI M0 42 k else a) else a)
theorem SN_h {S M0 : MS} {k : Nat} (h : SN S M0 k) (hk : k ≤ 24) (hn : gI M0 46 k = -1) : ∃ h : Nat, 1 ≤ h ∧ h ≤ 40 ∧ gI S 85 (k * 5 + 0) = nI h ∧ gI M0 42 k = nI h := by
  rcases h with ⟨h1, h2, h3, h4, h5, h6, h7⟩ | ⟨j, hj, h1, h2, h3⟩
  · exact h6
  · rw [h1] at hn; exact absurd hn (nI_neg (by omega))
theorem X_last_go {t n m : Nat} {M0 S : MS} (h : RX t S) (hx : KX S) (hs : XS n m M0 S) (hr : SR m M0 S) : ∀ (d k fuel : Nat) (a : Int32), m = k + d → d < fuel → fX6_lastHour_4 fuel 83 a (nI k) S = some (lastGo M0 d k a) := by
  have h2 := hs.2.1
  have h3 := hs.2.2.1
  intro d
  induction d with
  | zero =>
    intro k fuel a e1 e2
    obtain ⟨f, rfl⟩ : ∃ f, fuel = f + 1 := ⟨fuel - 1, by omega⟩
    unfold fX6_lastHour_4
    rw [X_reach h hs, Option.bind_some, e1, Nat.add_zero, if_pos (Int32.le_refl _)]; rfl
  | succ d ih =>
    intro k fuel a e1 e2
    obtain ⟨f, rfl⟩ : ∃ f, fuel = f + 1 := ⟨fuel - 1, by omega⟩
    have g0 : fX7_get 84 (nI k) (0 : Int32) S = _ := X_g85 (c := 0) h hx hs (show k < n by omega) (by decide)
    unfold fX6_lastHour_4 fX6_lastHour_34
    rw [X_reach h hs, Option.bind_some, if_neg (nle (by omega) (by omega)), X_known h hx hs hr (by omega), Option.bind_some, rx_83_0 h, g0, Option.bind_some, nI_1, ih (k + 1) f _ (by omega) (by omega), ih (k + 1) f _ (by omega) (by omega)]
    show _ = some (lastGo M0 d (k + 1) (if knE M0 k = true then (if a < gI M0 42 k then gI M0 42 k else a) else a))
    cases hkn : knE M0 k with
    | false => rfl
    | true =>
      obtain ⟨hh, -, -, e3, e4⟩ := SN_h (hs.2.2.2.2 k (by omega)) (by omega) (of_decide_eq_true hkn).2
      rw [if_neg b2i_t, if_pos rfl, e3, e4]
theorem last_rng {n m : Nat} {M0 S : MS} (hs : XS n m M0 S) : ∀ (d k : Nat) (a : Int32), m = k + d → (∃ l : Nat, l ≤ 40 ∧ a = nI l) → ∃ l : Nat, l ≤ 40 ∧ lastGo M0 d k a = nI l := by
  have h2 := hs.2.1
  have h3 := hs.2.2.1
  intro d
  induction d with
  | zero => intro k a _ h; exact h
  | succ d ih =>
    intro k a e1 h
    refine ih (k + 1) _ (by omega) ?_
    cases hkn : knE M0 k with
    | false => exact h
    | true =>
      obtain ⟨hh, -, e0, e3, e4⟩ := SN_h (hs.2.2.2.2 k (by omega)) (by omega) (of_decide_eq_true hkn).2
      rw [if_pos rfl]
      split
      · exact ⟨hh, e0, e4⟩
      · exact h
/-- whether all that is known at an hour is so -/
def agE (M0 : MS) (t her it : Int32) : Nat → Nat → Bool
  | 0, _ => true
  | d + 1, k => if knE M0 k = true ∧ gI M0 42 k = t then (if (decide ((if gI M0 43 k = 0 then her else it) = gI M0 44 k) == decide (gI M0 45 k = 1)) = true then agE M0 t her it d (k + 1) else false) else agE M0 t her it d (k + 1)
theorem cell_inj {a b r c : Nat} (ha : a < 8) (hb : b < 8) (hr : r < 8) (hc : c < 8) : (nI a = nI r ∧ nI b = nI c) ↔ nI (a * 8 + b) = nI (r * 8 + c) := by
  rw [nI_eq (by omega) (by omega), nI_eq (by omega) (by omega), nI_eq (by omega) (by omega)]; omega
theorem X_ag_go {t n m w a b c d h : Nat} {M0 S : MS} (hR : RX t S) (hx : KX S) (hs : XS n m M0 S) (hr : SR m M0 S) (ha : a < 8) (hb : b < 8) (hc : c < 8) (hd : d < 8) (e4 : gI S w 4 = nI a) (e5 : gI S w 5 = nI b) (e12 : gI S w 12 = nI c) (e13 : gI S w 13 = nI d) (hh : h ≤ 40) : ∀ (dd k fuel : Nat), m = k + dd → dd < fuel → fX6_agrees_2 fuel 83 (nI h) w (nI k) S = some (b2i (agE M0 (nI h) (nI (a * 8 + b)) (nI (c * 8 + d)) dd k)) := by
  have h2 := hs.2.1
  have h3 := hs.2.2.1
  intro dd
  induction dd with
  | zero =>
    intro k fuel e1 e2
    obtain ⟨f, rfl⟩ : ∃ f, fuel = f + 1 := ⟨fuel - 1, by omega⟩
    unfold fX6_agrees_2
    rw [X_reach hR hs, Option.bind_some, e1, Nat.add_zero, if_pos (Int32.le_refl _)]; rfl
  | succ dd ih =>
    intro k fuel e1 e2
    obtain ⟨f, rfl⟩ : ∃ f, fuel = f + 1 := ⟨fuel - 1, by omega⟩
    have g : ∀ c, c < 5 → fX7_get 84 (nI k) (nI c) S = some (gI S 85 (k * 5 + c)) := fun c hc => X_g85 (c := c) hR hx hs (show k < n by omega) hc
    have g0 : fX7_get 84 (nI k) (0 : Int32) S = _ := g 0 (by decide)
    have g1 : fX7_get 84 (nI k) (1 : Int32) S = _ := g 1 (by decide)
    have g2 : fX7_get 84 (nI k) (2 : Int32) S = _ := g 2 (by decide)
    have g3 : fX7_get 84 (nI k) (3 : Int32) S = _ := g 3 (by decide)
    have g4 : fX7_get 84 (nI k) (4 : Int32) S = _ := g 4 (by decide)
    have i1 := ih (k + 1) f (by omega) (by omega)
    show _ = some (b2i (if knE M0 k = true ∧ gI M0 42 k = nI h then (if (decide ((if gI M0 43 k = 0 then nI (a * 8 + b) else nI (c * 8 + d)) = gI M0 44 k) == decide (gI M0 45 k = 1)) = true then agE M0 (nI h) (nI (a * 8 + b)) (nI (c * 8 + d)) dd (k + 1) else false) else agE M0 (nI h) (nI (a * 8 + b)) (nI (c * 8 + d)) dd (k + 1)))
    unfold fX6_agrees_2 fX6_agrees_48 fX6_agrees_66 fX6_agrees_84 fX6_agrees_118 fX6_agrees_119 fX6_agrees_141 fX6_agrees_146
    simp only [X_reach hR hs, Option.bind_some, nle (show m < 2 ^ 31 by omega) (show k < m by omega), if_false, X_known hR hx hs hr (show k < m by omega), rx_83_0 hR, g0, g1, g2, g3, g4, nI_1, i1, e4, e5, e12, e13]
    cases hkn : knE M0 k with
    | false => simp [b2i]
    | true =>
      have hno := (of_decide_eq_true hkn).2
      have hsn := hs.2.2.2.2 k (by omega)
      rcases hsn with ⟨s1, s2, s3, s4, s5, ⟨hk, hk1, hk2, s6, s7⟩, ⟨r, cc, hr8, hc8, s8, s9, s10⟩⟩ | ⟨j, hj, s1, -, -⟩
      · rw [if_neg b2i_t, s6, s7]
        by_cases ch : nI hk = nI h
        · rw [if_pos ch, if_pos (show true = true ∧ nI hk = nI h from ⟨rfl, ch⟩), s2, s4, s8, s9, s10]
          have ci1 := cell_inj (a := a) (b := b) (r := r) (c := cc) ha hb hr8 hc8
          have ci2 := cell_inj (a := c) (b := d) (r := r) (c := cc) hc hd hr8 hc8
          rcases s3 with s3 | s3
          · simp only [s3, if_true, one0, if_false]
            rcases s5 with s5 | s5
            · simp only [s5, show ¬ (0 : Int32) = 1 by decide, if_false, decide_false]
              by_cases q1 : nI a = nI r
              · by_cases q2 : nI b = nI cc
                · simp only [q1, q2, if_true, one0, if_false, ci1.mp ⟨q1, q2⟩, decide_true]; rfl
                · simp only [q1, q2, if_true, if_false, (show ¬ nI (a * 8 + b) = nI (r * 8 + cc) from fun e => q2 (ci1.mpr e).2), decide_false]; rfl
              · simp only [q1, if_true, if_false, (show ¬ nI (a * 8 + b) = nI (r * 8 + cc) from fun e => q1 (ci1.mpr e).1), decide_false]; rfl
            · simp only [s5, if_true, decide_true]
              by_cases q1 : nI a = nI r
              · by_cases q2 : nI b = nI cc
                · simp only [q1, q2, if_true, ci1.mp ⟨q1, q2⟩, decide_true]; rfl
                · simp only [q1, q2, if_true, if_false, show ¬ (0 : Int32) = 1 by decide, (show ¬ nI (a * 8 + b) = nI (r * 8 + cc) from fun e => q2 (ci1.mpr e).2), decide_false]; rfl
              · simp only [q1, if_false, show ¬ (0 : Int32) = 1 by decide, (show ¬ nI (a * 8 + b) = nI (r * 8 + cc) from fun e => q1 (ci1.mpr e).1), decide_false]; rfl
          · simp only [s3, one0, if_true, if_false]
            rcases s5 with s5 | s5
            · simp only [s5, show ¬ (0 : Int32) = 1 by decide, if_false, decide_false]
              by_cases q1 : nI c = nI r
              · by_cases q2 : nI d = nI cc
                · simp only [q1, q2, if_true, one0, if_false, ci2.mp ⟨q1, q2⟩, decide_true]; rfl
                · simp only [q1, q2, if_true, if_false, (show ¬ nI (c * 8 + d) = nI (r * 8 + cc) from fun e => q2 (ci2.mpr e).2), decide_false]; rfl
              · simp only [q1, if_true, if_false, (show ¬ nI (c * 8 + d) = nI (r * 8 + cc) from fun e => q1 (ci2.mpr e).1), decide_false]; rfl
            · simp only [s5, if_true, decide_true]
              by_cases q1 : nI c = nI r
              · by_cases q2 : nI d = nI cc
                · simp only [q1, q2, if_true, ci2.mp ⟨q1, q2⟩, decide_true]; rfl
                · simp only [q1, q2, if_true, if_false, show ¬ (0 : Int32) = 1 by decide, (show ¬ nI (c * 8 + d) = nI (r * 8 + cc) from fun e => q2 (ci2.mpr e).2), decide_false]; rfl
              · simp only [q1, if_false, show ¬ (0 : Int32) = 1 by decide, (show ¬ nI (c * 8 + d) = nI (r * 8 + cc) from fun e => q1 (ci2.mpr e).1), decide_false]; rfl
        · rw [if_neg ch, if_neg (fun e => ch e.2)]
      · rw [s1] at hno; exact absurd hno (nI_neg (by omega))
/-- the reference's rows of what was seen are those of M0 -/
def ME (M0 S : MS) : Prop := (∀ o k, 42 ≤ o → o ≤ 47 → gI S o k = gI M0 o k)
theorem M_known {m n : Nat} {M0 S0 S : MS} (hs : XS n m M0 S0) (h66 : gI S 0 66 = nI n) (h67 : gI S 0 67 = gI S0 83 2) : fX11_knownMany 0 S = some (nI m) := by
  obtain ⟨h1, h2, h3, h4, h5⟩ := hs
  unfold fX11_knownMany
  rw [h66, h67]
  rcases h4 with ⟨h4, h6⟩ | h4
  · rw [if_pos h4, h6]
  · rw [h4, if_neg (nI_neg (by omega))]
theorem M_ag_go {n m h : Nat} {M0 S0 S : MS} {r0 c0 fr fc : Int32} (hM : MR S) (hs : XS n m M0 S0) (hr : SR m M0 S0) (h66 : gI S 0 66 = nI n) (h67 : gI S 0 67 = gI S0 83 2) (he : ME M0 S) (e4 : gI S 30 1 = r0) (e5 : gI S 31 1 = c0) (e58 : gI S 0 58 = fr) (e59 : gI S 0 59 = fc) : ∀ (dd k fuel : Nat), m = k + dd → dd < fuel → fX11_isSo_2 fuel 0 (nI h) (nI k) S = some (b2i (agE M0 (nI h) (8 * r0 + c0) (8 * fr + fc) dd k)) := by
  have h2 := hs.2.1
  have h3 := hs.2.2.1
  have km := M_known hs h66 h67
  intro dd
  induction dd with
  | zero =>
    intro k fuel e1 e2
    obtain ⟨f, rfl⟩ : ∃ f, fuel = f + 1 := ⟨fuel - 1, by omega⟩
    unfold fX11_isSo_2
    rw [km, Option.bind_some, e1, Nat.add_zero, if_pos (Int32.le_refl _)]; rfl
  | succ dd ih =>
    intro k fuel e1 e2
    obtain ⟨f, rfl⟩ : ∃ f, fuel = f + 1 := ⟨fuel - 1, by omega⟩
    have i1 := ih (k + 1) f (by omega) (by omega)
    have b24 : bnd (nI k) 24 = true := bnd_nI (by omega) (by decide)
    have ck : (nI k).toNatClampNeg = k := nI_clamp (by omega)
    show _ = some (b2i (if knE M0 k = true ∧ gI M0 42 k = nI h then (if (decide ((if gI M0 43 k = 0 then 8 * r0 + c0 else 8 * fr + fc) = gI M0 44 k) == decide (gI M0 45 k = 1)) = true then agE M0 (nI h) (8 * r0 + c0) (8 * fr + fc) dd (k + 1) else false) else agE M0 (nI h) (8 * r0 + c0) (8 * fr + fc) dd (k + 1)))
    unfold fX11_isSo_2 fX11_isSo_82 fX11_isSo_98 fX11_isSo_109
    simp only [km, Option.bind_some, nle (show m < 2 ^ 31 by omega) (show k < m by omega), if_false, mr_46 hM, mr_47 hM, mr_68 hM, mr_69 hM, mr_70 hM, mr_71 hM, mr_72 hM, mr_73 hM, lm_30, lm_31, lm_42, lm_43, lm_44, lm_45, lm_46, lm_47, b24, ck, if_true, show bnd (1 : Int32) 23 = true from rfl, show (1 : Int32).toNatClampNeg = 1 from rfl, e4, e5, e58, e59, he 42 k (by decide) (by decide), he 43 k (by decide) (by decide), he 44 k (by decide) (by decide), he 45 k (by decide) (by decide), he 46 k (by decide) (by decide), he 47 k (by decide) (by decide), nI_1, i1]
    unfold knE
    by_cases c1 : gI M0 47 k = 0
    · by_cases c2 : gI M0 46 k = -1
      · simp only [c1, c2, if_true, true_and, decide_true]
        by_cases c3 : gI M0 42 k = nI h
        · have hsn := hs.2.2.2.2 k (by omega)
          rcases hsn with ⟨s1, s2, s3, s4, s5, -, -⟩ | ⟨j, hj, s1, -, -⟩
          · simp only [c3, if_true]
            generalize hp : (if gI M0 43 k = 0 then 8 * r0 + c0 else 8 * fr + fc) = p
            have pe : (if gI M0 43 k = 0 then (if 8 * r0 + c0 = gI M0 44 k then (if 1 = gI M0 45 k then some (b2i (agE M0 (nI h) (8 * r0 + c0) (8 * fr + fc) dd (k + 1))) else some 0) else (if 0 = gI M0 45 k then some (b2i (agE M0 (nI h) (8 * r0 + c0) (8 * fr + fc) dd (k + 1))) else some 0)) else (if 8 * fr + fc = gI M0 44 k then (if 1 = gI M0 45 k then some (b2i (agE M0 (nI h) (8 * r0 + c0) (8 * fr + fc) dd (k + 1))) else some 0) else (if 0 = gI M0 45 k then some (b2i (agE M0 (nI h) (8 * r0 + c0) (8 * fr + fc) dd (k + 1))) else some 0))) = (if p = gI M0 44 k then (if 1 = gI M0 45 k then some (b2i (agE M0 (nI h) (8 * r0 + c0) (8 * fr + fc) dd (k + 1))) else some 0) else (if 0 = gI M0 45 k then some (b2i (agE M0 (nI h) (8 * r0 + c0) (8 * fr + fc) dd (k + 1))) else some (0 : Int32))) := by
              rw [← hp]; split <;> rfl
            rw [pe]
            by_cases c4 : p = gI M0 44 k
            · rcases s5 with s5 | s5
              · simp [c4, s5, b2i]
              · simp [c4, s5]
            · rcases s5 with s5 | s5
              · simp [c4, s5]
              · simp [c4, s5, b2i]
          · rw [s1] at c2; exact absurd c2 (nI_neg (by omega))
        · simp only [c3, if_false, and_false]
      · simp only [c1, c2, if_true, if_false, and_false, decide_false, false_and, Bool.false_eq_true]
    · simp only [c1, if_false, false_and, decide_false, Bool.false_eq_true]
