/-! ===== a law's line: what the class holds back, what both have laid ===== -/
def rk (k : Int32) : Nat := if k = 7 then 5 else if k = 8 then 5 else if k = 9 then 6 else if k = 10 then 6 else if k = 34 then 1 else if k = 35 then 2 else if k = 36 then 3 else if k < 11 then 0 else if 16 < k then 0 else 4
theorem X_rank {k : Int32} {S : MS} : fX5_rankOf k S = some (nI (rk k)) := by
  unfold fX5_rankOf rk
  repeat (split; rfl)
  rfl
theorem rk_le {k : Int32} : rk k ≤ 6 := by
  unfold rk
  repeat (split; decide)
  decide
/-- the signs that wait, the last one first -/
def stk (S : MS) : List Int32 → Prop
  | [] => True
  | w :: W => gI S 50 W.length = w ∧ stk S W
theorem stk_fr {S S1 : MS} : ∀ W : List Int32, (∀ j, j < W.length → gI S1 50 j = gI S 50 j) → stk S W → stk S1 W
  | [], _, _ => True.intro
  | w :: W, h, g => ⟨(h W.length (by show W.length < W.length + 1; omega)).trans g.1, stk_fr W (fun j hj => h j (by show j < W.length + 1; omega)) g.2⟩
def XWt (S : MS) (W : List Int32) : Prop := gI S 48 11 = nI W.length ∧ W.length ≤ 72 ∧ stk S W
def topK (W : List Int32) : Int32 := match W with | [] => 0 | w :: _ => w
theorem X_last {t : Nat} {S : MS} {W : List Int32} (hR : RX t S) (h : XWt S W) : fX5_lastWaiting 48 S = some (topK W) := by
  unfold fX5_lastWaiting
  cases W with
  | nil =>
    have e : gI S 48 11 = 0 := h.1
    rw [e]; rfl
  | cons w W =>
    have e : gI S 48 11 = nI (W.length + 1) := h.1
    have hl : W.length + 1 ≤ 72 := h.2.1
    rw [e, if_neg (show ¬ nI (W.length + 1) ≤ 0 from nle (i := 0) (by omega) (by omega)), if_neg (show ¬ (72 : Int32) < nI (W.length + 1) from fun q => absurd ((nI_ltI (show (72 : Nat) < 2 ^ 31 by decide) (by omega)).mp q) (by omega)), rx_48_1 hR, lx_50, show nI (W.length + 1) - 1 = nI W.length from nI_subN (a := W.length + 1) (b := 1) (by omega), bnd_nI (show W.length < 72 by omega) (by decide), if_pos rfl, nI_clamp (by omega), h.2.2.1]
    rfl
theorem X_hold {t : Nat} {S : MS} {W : List Int32} {v : Int32} (hR : RX t S) (h : XWt S W) (hl : W.length < 72) : fX5_hold 48 v S = some (pI (pI S 50 W.length v) 48 11 (nI (W.length + 1))) ∧ XWt (pI (pI S 50 W.length v) 48 11 (nI (W.length + 1))) (v :: W) := by
  constructor
  · unfold fX5_hold
    rw [h.1, if_neg (show ¬ (72 : Int32) ≤ nI W.length from nle (n := 72) (by decide) hl), rx_48_1 hR, lx_50, bnd_nI hl (by decide), if_pos rfl, nI_clamp (by omega), gI_neo (by decide), h.1, nI_1]
  · refine ⟨gI_same, hl, ?_, ?_⟩
    · rw [gI_neo (by decide), gI_same]
    · exact stk_fr W (fun j hj => by rw [gI_neo (by decide), gI_nek (by omega)]) h.2.2
theorem X_hold_f {t : Nat} {S : MS} {W : List Int32} {v : Int32} (h : XWt S W) (hl : W.length = 72) : fX5_hold 48 v S = some S := by
  unfold fX5_hold
  rw [h.1, hl, if_pos (show (72 : Int32) ≤ nI 72 by decide)]
/-! what is laid -/
def ouX (S : MS) (L z : Nat) : List Int32 := (List.range z).map (fun i => gI S (L + 1) i)
def ouM (S : MS) (b z : Nat) : List Int32 := (List.range z).map (fun i => enK (gI S 23 (64 + (b + i))) (gI S 24 (64 + (b + i))))
theorem map_rs {f g : Nat → Int32} {z : Nat} {v : Int32} (h : ∀ i, i < z → f i = g i) (hv : f z = v) : (List.range (z + 1)).map f = (List.range z).map g ++ [v] := by
  rw [List.range_succ, List.map_append, List.map_cons, List.map_nil, hv]
  congr 1
  exact List.map_congr_left (fun i hi => h i (List.mem_range.mp hi))
theorem map_rc {f g : Nat → Int32} {z : Nat} (h : ∀ i, i < z → f i = g i) : (List.range z).map f = (List.range z).map g := List.map_congr_left (fun i hi => h i (List.mem_range.mp hi))
def isL (u L : Nat) : Prop := L = u + 14 ∨ L = u + 17 ∨ L = u + 20
theorem rL {t u L : Nat} {S : MS} (hR : RX t S) (hu : isT u) (hL : isL u L) : gR S L 0 = L + 1 ∧ lnX (L + 1) = 64 := by
  rcases hL with rfl | rfl | rfl
  · exact ⟨rk_0 hR hu, lt_15 hu⟩
  · exact ⟨rk_1 hR hu, lt_18 hu⟩
  · exact ⟨rk_2 hR hu, lt_21 hu⟩
theorem X_lay {t u L z : Nat} {S : MS} {v : Int32} (hR : RX t S) (hu : isT u) (hL : isL u L) (hz : gI S L 2 = nI z) (h : z < 64) : fX1_add L v S = some (pI (pI S (L + 1) z v) L 2 (nI (z + 1))) ∧ ouX (pI (pI S (L + 1) z v) L 2 (nI (z + 1))) L (z + 1) = ouX S L z ++ [v] := by
  obtain ⟨h1, h2⟩ := rL hR hu hL
  constructor
  · unfold fX1_add
    rw [hz, if_neg (show ¬ (64 : Int32) ≤ nI z from nle (n := 64) (by decide) h), h1, h2, bnd_nI h (by decide), if_pos rfl, nI_clamp (by omega), gI_neo (show L ≠ L + 1 by omega), hz, nI_1]
  · unfold ouX
    exact map_rs (fun i hi => by rw [gI_neo (by omega), gI_nek (by omega)]) (by rw [gI_neo (by omega), gI_same])
/-- what the class's reader may change while it reads a law -/
def PLw (u L o j : Nat) : Prop := (o = 48 ∧ ((4 ≤ j ∧ j ≤ 8) ∨ j = 11 ∨ j = 12 ∨ j = 16 ∨ j = 17)) ∨ o = 50 ∨ (o = u ∧ j = 15) ∨ (o = L ∧ j = 2) ∨ o = L + 1
def RLw (L o j : Nat) : Prop := (o = 48 ∧ j = 11) ∨ (o = L ∧ j = 2) ∨ o = L + 1
theorem X_rel_go {t u L r : Nat} {W : List Int32} {S0 : MS} (hu : isT u) (hL : isL u L) (hW : rk (topK W) < r) (hr : r ≤ 7) : ∀ (D : List Int32) (i z fuel : Nat) (S : MS), (∀ d ∈ D, r ≤ rk d) → i + D.length ≤ 72 → 72 < fuel + i → RX t S → gR S 48 10 = L → XWt S (D ++ W) → gI S L 2 = nI z → z + D.length ≤ 64 → Fr (RLw L) S0 S →
    ∃ S1, fX5_release_2 fuel 48 (nI r) (nI i) S = some S1 ∧ XWt S1 W ∧ gI S1 L 2 = nI (z + D.length) ∧ ouX S1 L (z + D.length) = ouX S L z ++ D.map (fun d => -d) ∧ Fr (RLw L) S0 S1 := by
  have hu' := hu
  unfold isT at hu'
  intro D
  induction D with
  | nil =>
    intro i z fuel S hD hi hf hR h10 hX hz hz6 fr
    obtain ⟨f, rfl⟩ : ∃ f, fuel = f + 1 := ⟨fuel - 1, by simp at hi; omega⟩
    refine ⟨S, ?_, hX, hz, by simp, fr⟩
    unfold fX5_release_2
    have hX' : XWt S W := hX
    by_cases c : (72 : Int32) ≤ nI i
    · rw [if_pos c]
    · rw [if_neg c, X_last hR hX', Option.bind_some, X_rank, Option.bind_some, if_pos ((nI_ltI (by omega) (by omega)).mpr hW)]
  | cons d D ih =>
    intro i z fuel S hD hi hf hR h10 hX hz hz6 fr
    have hi' : i + (D.length + 1) ≤ 72 := hi
    have hz6' : z + (D.length + 1) ≤ 64 := hz6
    obtain ⟨f, rfl⟩ : ∃ f, fuel = f + 1 := ⟨fuel - 1, by omega⟩
    have hX' : XWt S (d :: (D ++ W)) := hX
    have hd : r ≤ rk d := hD d (List.mem_cons_self ..)
    have hw : (D ++ W).length ≤ 71 := by have := hX'.2.1; have e : (d :: (D ++ W)).length = (D ++ W).length + 1 := rfl; omega
    obtain ⟨a1, a2⟩ := X_lay (v := -d) hR hu hL hz (by omega)
    have hlL : L ≠ 48 ∧ L + 1 ≠ 48 ∧ L ≠ 50 ∧ L + 1 ≠ 50 := by unfold isL at hL; omega
    have e11 : gI (pI (pI S (L + 1) z (-d)) L 2 (nI (z + 1))) 48 11 = nI ((D ++ W).length + 1) := by
      rw [gI_neo (by omega), gI_neo (by omega)]; exact hX'.1
    have hX2 : XWt (pI (pI (pI S (L + 1) z (-d)) L 2 (nI (z + 1))) 48 11 (nI (D ++ W).length)) (D ++ W) := by
      refine ⟨gI_same, by omega, stk_fr _ (fun j _ => ?_) hX'.2.2.2⟩
      rw [gI_neo (by decide), gI_neo (by omega), gI_neo (by omega)]
    have fr2 : Fr (RLw L) S0 (pI (pI (pI S (L + 1) z (-d)) L 2 (nI (z + 1))) 48 11 (nI (D ++ W).length)) := ((fr.pI (Or.inr (Or.inr rfl))).pI (Or.inr (Or.inl ⟨rfl, rfl⟩))).pI (Or.inl ⟨rfl, rfl⟩)
    have hz2 : gI (pI (pI (pI S (L + 1) z (-d)) L 2 (nI (z + 1))) 48 11 (nI (D ++ W).length)) L 2 = nI (z + 1) := by rw [gI_neo (by omega), gI_same]
    obtain ⟨S1, b1, b2, b3, b4, b5⟩ := ih (i + 1) (z + 1) f (pI (pI (pI S (L + 1) z (-d)) L 2 (nI (z + 1))) 48 11 (nI (D ++ W).length)) (fun x hx => hD x (List.mem_cons_of_mem _ hx)) (by omega) (by omega) (hR.of rfl) h10 hX2 hz2 (by omega) fr2
    refine ⟨S1, ?_, b2, ?_, ?_, b5⟩
    · unfold fX5_release_2
      have hl : ¬ (72 : Int32) ≤ nI i := nle (n := 72) (by decide) (by omega)
      have hnr : ¬ nI (rk d) < nI r := fun q => absurd ((nI_ltI (by have := rk_le (k := d); omega) (by omega)).mp q) (by omega)
      rw [if_neg hl, X_last hR hX', Option.bind_some, X_rank, Option.bind_some]
      show (if nI (rk d) < nI r then _ else _) = _
      rw [if_neg hnr, Option.bind_some, h10]
      show (fX1_add L (-d) S).bind _ = _
      rw [a1, Option.bind_some, e11, show nI ((D ++ W).length + 1) - 1 = nI (D ++ W).length from nI_subN (a := (D ++ W).length + 1) (b := 1) (by omega), nI_1, b1]
    · rw [b3]; show nI (z + 1 + D.length) = nI (z + (D.length + 1)); congr 1; omega
    · have e : z + (d :: D).length = z + 1 + D.length := by show z + (D.length + 1) = _; omega
      rw [e, b4]
      have a3 : ouX (pI (pI (pI S (L + 1) z (-d)) L 2 (nI (z + 1))) 48 11 (nI (D ++ W).length)) L (z + 1) = ouX S L z ++ [-d] := by
        rw [← a2]
        exact map_rc (fun i _ => by rw [gI_neo (by omega)])
      rw [a3, List.append_assoc]
      rfl
theorem X_rel {t u L r z : Nat} {D W : List Int32} {S : MS} (hu : isT u) (hL : isL u L) (hW : rk (topK W) < r) (hr : r ≤ 7) (hD : ∀ d ∈ D, r ≤ rk d) (hR : RX t S) (h10 : gR S 48 10 = L) (hX : XWt S (D ++ W)) (hz : gI S L 2 = nI z) (hz6 : z + D.length ≤ 64) :
    ∃ S1, fX5_release 48 (nI r) S = some S1 ∧ XWt S1 W ∧ gI S1 L 2 = nI (z + D.length) ∧ ouX S1 L (z + D.length) = ouX S L z ++ D.map (fun d => -d) ∧ Fr (RLw L) S S1 := by
  have hl : D.length ≤ 72 := by omega
  exact X_rel_go hu hL hW hr D 0 z 1000 S hD (by omega) (by omega) hR h10 hX hz hz6 Fr.rf
