/-! ===== the next sign of the text, both sides ===== -/
theorem runE_gt {P : Nat → Bool} {n d p : Nat} (h : p < n) (h1 : P p = true) (hd : p + d = n) : p < runE P n d p := by
  obtain ⟨e, rfl⟩ : ∃ e, d = e + 1 := ⟨d - 1, by omega⟩
  unfold runE
  rw [if_pos ⟨h, h1⟩]
  exact Nat.lt_of_lt_of_le (show p < p + 1 by omega) (runE_ge e (p + 1))
def wdM (S : MS) : Option MS := (fX11_word 0 S).bind fun q17 => (if gI (pI S 0 33 q17) 0 33 = (-1 : Int32) then (if ((gI (pI S 0 33 q17) 0 30) - (gI (pI S 0 33 q17) 0 31)) ≤ (6 : Int32) then fX11_token_127 0 0 (1 : Int32) (pI S 0 33 q17) else fX11_token_127 0 0 (5 : Int32) (pI S 0 33 q17)) else fX11_token_127 0 0 (0 : Int32) (pI S 0 33 q17))
theorem M_let_go {n : Nat} {bt : Nat → Nat} {S0 : MS} : ∀ (d p fuel : Nat) (S : MS), p + d = n → d < fuel → ML n bt S → gI S 0 30 = nI p → Fr NM S0 S → gI S 0 31 = gI S0 0 31 →
    ∃ S1, fX11_token_64 fuel 0 S = wdM S1 ∧ ML n bt S1 ∧ gI S1 0 30 = nI (runE (fun i => ltB (bt i)) n d p) ∧ Fr NM S0 S1 ∧ gI S1 0 31 = gI S0 0 31 := by
  intro d
  induction d with
  | zero =>
    intro p fuel S e1 e2 h hp hf h31
    obtain ⟨f, rfl⟩ : ∃ f, fuel = f + 1 := ⟨fuel - 1, by omega⟩
    refine ⟨S, ?_, h, hp, hf, h31⟩
    unfold fX11_token_64
    rw [M_here h hp (by omega), if_neg (show ¬ p < n by omega), Option.bind_some]
    rfl
  | succ d ih =>
    intro p fuel S e1 e2 h hp hf h31
    obtain ⟨f, rfl⟩ : ∃ f, fuel = f + 1 := ⟨fuel - 1, by omega⟩
    have hn := h.2.2.1
    obtain ⟨b1, b2⟩ := h.2.2.2 p (by omega)
    unfold fX11_token_64
    rw [M_here h hp (by omega), if_pos (show p < n by omega), Option.bind_some, M_let b1, Option.bind_some]
    cases c : ltB (bt p) with
    | false =>
      have er : runE (fun i => ltB (bt i)) n (d + 1) p = p := by
        unfold runE; rw [if_neg (fun hh => by have := hh.2; rw [c] at this; exact absurd this (by decide))]
      rw [er]
      exact ⟨S, rfl, h, hp, hf, h31⟩
    | true =>
      have er : runE (fun i => ltB (bt i)) n (d + 1) p = runE (fun i => ltB (bt i)) n d (p + 1) := by
        show (if p < n ∧ ltB (bt p) = true then _ else _) = _; rw [if_pos ⟨by omega, c⟩]
      rw [er, if_neg (show ¬ b2i true = 0 by decide), hp, nI_1]
      have f1 : Fr NM S (pI S 0 30 (nI (p + 1))) := Fr.rf.pI ⟨rfl, by decide, by decide⟩
      exact ih (p + 1) f _ (by omega) (by omega) (h.fr f1) gI_same (hf.tr f1) (by rw [gI_nek (by decide)]; exact h31)
/-- what one more sign leaves -/
def NO (n a : Nat) (SX SM SX1 SM1 : MS) (e : Nat) : Prop := Fr NX SX SX1 ∧ Fr NM SM SM1 ∧ gI SX1 48 8 = gI SX 48 8 ∧ gI SX1 48 7 = nI a ∧ gI SM1 0 31 = nI a ∧ gI SX1 48 4 = nI e ∧ gI SM1 0 30 = nI e ∧ e ≤ n ∧ a < e ∧ gI SX1 48 5 ≠ 0 ∧ TK (gI SX1 48 5) (gI SX1 48 6) (gI SM1 0 32) (gI SM1 0 33)
theorem wfi_none {m : Nat → Bool} : ∀ d i, (∀ k, i ≤ k → k < i + d → m k = false) → wfi m d i = none
  | 0, _, _ => rfl
  | d + 1, i, h => by
    unfold wfi
    rw [h i (Nat.le_refl _) (by omega), if_neg (by decide)]
    exact wfi_none d (i + 1) (fun k h1 h2 => h k (by omega) (by omega))
theorem wd_ok {t n a : Nat} {bt : Nat → Nat} {SX SM : MS} (hX : XL t n bt SX) (hM : ML n bt SM) (ha : a < n) (x4 : gI SX 48 4 = nI a) (x6 : gI SX 48 6 = 0) (x7 : gI SX 48 7 = nI a) (m30 : gI SM 0 30 = nI a) (m31 : gI SM 0 31 = nI a) (hl : ltB (bt a) = true) :
    ∃ SX1 SM1 e, fX5_scanWord 48 SX = some SX1 ∧ fX11_token_64 1000 0 SM = some SM1 ∧ NO n a SX SM SX1 SM1 e := by
  have hn := hX.2.2.2.2.1
  have p : ∀ j, 30 ≤ j → j ≤ 33 → NM 0 j := fun j a b => ⟨rfl, a, b⟩
  obtain ⟨A1, a1, a2, a3, a4, a5, a6, a7⟩ := X_word_go (a := a) (S0 := SX) (n - a) a 1000 0 SX (by omega) (by omega) rfl (fun k hk => absurd hk (by omega)) hX x4 x6 Fr.rf rfl rfl
  obtain ⟨B1, b1, b2, b3, b4, b5⟩ := M_let_go (S0 := SM) (n - a) a 1000 SM (by omega) (by omega) hM m30 Fr.rf rfl
  have eall := runE_all (P := fun i => ltB (bt i)) (n := n) (n - a) a
  have ele := runE_le (P := fun i => ltB (bt i)) (n := n) (n - a) a (by omega)
  have egt := runE_gt (P := fun i => ltB (bt i)) (n := n) (d := n - a) ha hl (by omega)
  generalize runE (fun i => ltB (bt i)) n (n - a) a = e at a1 a3 a4 b3 eall ele egt
  obtain ⟨L, rfl⟩ : ∃ L, e = a + L := ⟨e - a, by omega⟩
  rw [show a + L - a = L by omega] at a1 a4
  have hl' : ∀ k, k < L → ltB (bt (a + k)) = true := fun k hk => eall (a + k) (by omega) (by omega)
  have hb : ∀ k, k < L → bt (a + k) < 256 ∧ gI B1 1 (a + k) = nI (bt (a + k)) := fun k hk => b2.2.2.2 (a + k) (by omega)
  have hw := M_w4 b2.1 (b5.trans m31) b3 (by omega) hb 24 0 1000 rfl (by decide)
  have hw' : fX11_word 0 B1 = some (match wfi (mtB bt a L) 24 0 with | some k => nI k | none => -1) := hw
  have e1 : fX5_scanWord 48 SX = fX5_scanWord_80 48 (nI L) A1 := a1
  rw [e1, b1]
  unfold fX5_scanWord_80 fX5_scanWord_92 wdM fX11_token_127
  rw [hw', Option.bind_some, gI_same, gI_nek (show (30 : Nat) ≠ 33 by decide), gI_nek (show (31 : Nat) ≠ 33 by decide), b3, b5, m31, nI_subN (by omega), show a + L - a = L by omega]
  by_cases c6 : L ≤ 6
  · have yl : nI L ≤ 6 := (nI_leI (show L < 2 ^ 31 by omega) (show (6 : Nat) < 2 ^ 31 by decide)).mpr c6
    rw [if_pos yl, if_pos yl]
    have fA : Fr NX A1 (pI A1 48 5 2) := Fr.rf.pI ⟨rfl, by decide, by decide⟩
    obtain ⟨A2, g1, g2, g3, g4, g5, g6, g7⟩ := X_wfi_go (S0 := SX) 24 0 1000 (pI A1 48 5 2) rfl (by decide) (a2.fr fA) gI_same (a5.tr fA)
    have g1' : fX5_scanWord_97 1000 48 (0 : Int32) (pI A1 48 5 2) = some A2 := g1
    rw [gI_nek (by decide)] at g3 g4 g5 g6
    rw [a4, pk_hor c6] at g3
    have ew : wfi (fun k => decide (gI (pI A1 48 5 2) 49 k = gI (pI A1 48 5 2) 48 6)) 24 0 = wfi (mtB bt a L) 24 0 := by
      refine wfi_congr 24 0 (fun k _ hk => ?_)
      have hk' : k < 24 := by omega
      have kk := a2.2.1 _ (kw_dec k hk')
      have kk' : gI A1 49 k = nI (hor (fun j => if j < wn k then cw k j - 96 else 0)) := kk
      rw [gI_neo (by decide), gI_nek (by decide), kk', a4, pk_hor c6]
      unfold mtB
      by_cases q : L = wn k ∧ ∀ j, j < wn k → bt (a + j) = cw k j
      · rw [decide_eq_true q, decide_eq_true ((word_eq hk' c6 hl').mpr q)]
      · rw [decide_eq_false q, decide_eq_false (fun e => q ((word_eq hk' c6 hl').mp e))]
    rw [ew] at g2
    have hpos : 0 < hor (ltN bt a L) := by
      have h0 : ltN bt a L 0 = bt a - 96 := by unfold ltN; rw [if_pos (by omega)]; rfl
      have := of_decide_eq_true hl
      unfold hor; rw [h0]; omega
    have hlt : hor (ltN bt a L) < 1073741824 := hor_lt (fun k hk => by
      unfold ltN
      split
      · rename_i c; have := of_decide_eq_true (hl' k c); omega
      · decide)
    cases cw' : wfi (mtB bt a L) 24 0 with
    | some i =>
      rw [cw'] at g2
      have hi : i < 24 := by have := wfi_lt 24 0 i cw'; omega
      have ni : ¬ nI i = -1 := fun e => by
        have := congrArg Int32.toInt e
        rw [nI_toInt (by omega)] at this
        have h2 : (i : Int) = -1 := this
        omega
      rw [if_neg (show ¬ nI i = -1 from ni), gI_same, if_neg (show ¬ (0 : Int32) = 1 by decide)]
      refine ⟨A2, _, a + L, g1', rfl, g7, (b4.pI (p 33 (by decide) (by decide))).pI (p 32 (by decide) (by decide)), g6.trans a7, (g5.trans a6).trans x7, ?_, g4.trans a3, ?_, ele, egt, ?_, ?_⟩
      · rw [gI_nek (by decide), gI_nek (by decide), b5, m31]
      · rw [gI_nek (by decide), gI_nek (by decide), b3]
      · rw [g2]
        intro e
        have := (nI_eq (show 20 + i < 2 ^ 31 by omega) (show 0 < 2 ^ 31 by decide)).mp e
        omega
      · refine Or.inr (Or.inr (Or.inr (Or.inr (Or.inr ⟨gI_same, i, hi, g2, ?_⟩))))
        rw [gI_nek (by decide), gI_same]
    | none =>
      rw [cw'] at g2
      rw [if_pos (show (-1 : Int32) = -1 from rfl), gI_same, if_pos rfl]
      have fB : Fr NM SM (pI (pI (pI B1 0 33 (-1)) 0 32 1) 0 33 0) := ((b4.pI (p 33 (by decide) (by decide))).pI (p 32 (by decide) (by decide))).pI (p 33 (by decide) (by decide))
      obtain ⟨B2, k1, k2, k3, k4, k5, k6⟩ := M_name_go (S0 := SM) (bt := bt) (show a + L ≤ 700 by omega) hl' 6 0 1000 (pI (pI (pI B1 0 33 (-1)) 0 32 1) 0 33 0) rfl (by decide) (hM.fr fB).1 (by rw [gI_nek (by decide), gI_nek (by decide), gI_nek (by decide), b5, m31]) (by rw [gI_nek (by decide), gI_nek (by decide), gI_nek (by decide), b3]) (fun j hj => by rw [gI_neo (by decide), gI_neo (by decide), gI_neo (by decide)]; exact (hb j hj).2) gI_same fB
      have k1' : fX11_name 0 (pI (pI B1 0 33 (-1)) 0 32 1) = some B2 := k1
      rw [k1', Option.bind_some]
      refine ⟨A2, B2, a + L, g1', rfl, g7, k6, g6.trans a7, (g5.trans a6).trans x7, ?_, g4.trans a3, ?_, ele, egt, ?_, ?_⟩
      · rw [k4, gI_nek (by decide), gI_nek (by decide), gI_nek (by decide), b5, m31]
      · rw [k3, gI_nek (by decide), gI_nek (by decide), gI_nek (by decide), b3]
      · rw [g2]; decide
      · exact Or.inr (Or.inr (Or.inl ⟨g2, by rw [k5, gI_nek (by decide), gI_same], _, g3, k2, hpos, hlt⟩))
  · have nl : ¬ nI L ≤ 6 := fun e => c6 ((nI_leI (show L < 2 ^ 31 by omega) (show (6 : Nat) < 2 ^ 31 by decide)).mp e)
    rw [if_neg nl, if_neg nl]
    have ew : wfi (mtB bt a L) 24 0 = none := wfi_none 24 0 (fun k _ hk => decide_eq_false (fun hh => by
      have := (wd_dec k (by omega)).2.2.1
      have := hh.1
      omega))
    rw [ew]
    rw [if_pos (show (-1 : Int32) = -1 from rfl), gI_same, if_neg (show ¬ (5 : Int32) = 1 by decide)]
    have g1 : fX5_scanWord_97 1000 48 (0 : Int32) (pI A1 48 5 1) = some (pI A1 48 5 1) := by
      show fX5_scanWord_97 (999 + 1) 48 (0 : Int32) (pI A1 48 5 1) = _
      unfold fX5_scanWord_97
      rw [gI_same]
      rfl
    refine ⟨_, _, a + L, g1, rfl, a5.pI ⟨rfl, by decide, by decide⟩, (b4.pI (p 33 (by decide) (by decide))).pI (p 32 (by decide) (by decide)), ?_, ?_, ?_, ?_, ?_, ele, egt, ?_, ?_⟩
    · rw [gI_nek (by decide), a7]
    · rw [gI_nek (by decide), a6, x7]
    · rw [gI_nek (by decide), gI_nek (by decide), b5, m31]
    · rw [gI_nek (by decide), a3]
    · rw [gI_nek (by decide), gI_nek (by decide), b3]
    · rw [gI_same]; decide
    · exact Or.inr (Or.inl ⟨gI_same, gI_same⟩)
theorem nm_ok {t n a : Nat} {bt : Nat → Nat} {SX SM : MS} (hX : XL t n bt SX) (hM : ML n bt SM) (ha : a < n) (x4 : gI SX 48 4 = nI a) (x6 : gI SX 48 6 = 0) (x7 : gI SX 48 7 = nI a) (m30 : gI SM 0 30 = nI a) (m31 : gI SM 0 31 = nI a) (hl : dgB (bt a) = true) :
    ∃ SX1 SM1 e, fX5_scanNumber 48 SX = some SX1 ∧ fX11_token_162 1000 0 (pI (pI SM 0 32 2) 0 33 0) = some SM1 ∧ NO n a SX SM SX1 SM1 e := by
  have hn := hX.2.2.2.2.1
  have p : ∀ j, 30 ≤ j → j ≤ 33 → NM 0 j := fun j a b => ⟨rfl, a, b⟩
  have fX : Fr NX SX (pI SX 48 5 3) := Fr.rf.pI ⟨rfl, by decide, by decide⟩
  have fM : Fr NM SM (pI (pI SM 0 32 2) 0 33 0) := (Fr.rf.pI (p 32 (by decide) (by decide))).pI (p 33 (by decide) (by decide))
  obtain ⟨A1, e, he, a1, a2, a3, _, a5, a6, a7, a8⟩ := X_num_go (S0 := SX) (n - a) a 1000 0 (pI SX 48 5 3) (by omega) (by omega) (hX.fr fX) (by rw [gI_nek (by decide)]; exact x4) (by rw [gI_nek (by decide)]; exact x6) (by decide) fX
  obtain ⟨B1, b1, b2, b3, b4, b5, b6⟩ := M_num_go (S0 := SM) (n - a) a 1000 0 (pI (pI SM 0 32 2) 0 33 0) (by omega) (by omega) (hM.fr fM) (by rw [gI_nek (by decide), gI_nek (by decide)]; exact m30) gI_same (by decide) fM
  rw [← he] at b2 b3
  have eall := runE_all (P := fun i => dgB (bt i)) (n := n) (n - a) a
  have ele := runE_le (P := fun i => dgB (bt i)) (n := n) (n - a) a (by omega)
  have egt := runE_gt (P := fun i => dgB (bt i)) (n := n) (d := n - a) ha hl (by omega)
  rw [← he] at eall ele egt
  refine ⟨A1, B1, e, a1, b1, a8, b6, ?_, ?_, ?_, a2, b2, ele, egt, ?_, ?_⟩
  · rw [a7, gI_nek (by decide)]
  · rw [a6, gI_nek (by decide)]; exact x7
  · rw [b5, gI_nek (by decide), gI_nek (by decide)]; exact m31
  · rw [a5, gI_same]; decide
  · refine Or.inr (Or.inr (Or.inr (Or.inl ⟨a5.trans gI_same, ?_, _, _, a3, b3, nr_rel (e - a) a 0 0 (fun k h1 h2 => eall k h1 (by omega)) (Or.inl ⟨rfl, by decide⟩)⟩)))
    rw [b4, gI_nek (by decide), gI_same]
theorem sg_ok {t n a : Nat} {bt : Nat → Nat} {SX SM : MS} (hX : XL t n bt SX) (hM : ML n bt SM) (ha : a < n) (x4 : gI SX 48 4 = nI a) (x7 : gI SX 48 7 = nI a) (m30 : gI SM 0 30 = nI a) (m31 : gI SM 0 31 = nI a) (h1 : ltB (bt a) = false) (h2 : dgB (bt a) = false) :
    ∃ SX1 SM1 e, fX5_scanSign 48 SX = some SX1 ∧ fX11_sign 0 (nI (bt a)) SM = some SM1 ∧ NO n a SX SM SX1 SM1 e := by
  have hn := hX.2.2.2.2.1
  obtain ⟨c1, c2⟩ := hX.2.2.2.2.2 a ha
  have fM : Fr NM SM (pI SM 0 30 (nI (a + 1))) := Fr.rf.pI ⟨rfl, by decide, by decide⟩
  have hh := M_here (hM.fr fM) gI_same (show a + 1 ≤ n by omega)
  obtain ⟨A1, a1, a2, a3, a4, a5, a6, a7⟩ := X_sign hX x4 ha
  obtain ⟨B1, b1, b2, b3, b4, b5, b6⟩ := M_sign (x := nI (bt a)) hM.1 ((nI_ltI (show bt a < 2 ^ 31 by omega) (show (256 : Nat) < 2 ^ 31 by decide)).mpr c1) (by rw [m30, nI_1]; exact hh)
  obtain ⟨c, hc3, d1, d2, d3, d4⟩ : ∃ c, c < 3 ∧ ((if a + 1 < n then sb (bt (a + 1)) else 0) = 61 ↔ yc c = 61) ∧ ((if a + 1 < n then sb (bt (a + 1)) else 0) = 62 ↔ yc c = 62) ∧ ((if a + 1 < n then nI (bt (a + 1)) else -1) = 61 ↔ hc c = 61) ∧ ((if a + 1 < n then nI (bt (a + 1)) else -1) = 62 ↔ hc c = 62) := by
    by_cases q : a + 1 < n
    · rw [if_pos q, if_pos q]
      exact bh_dec (bt (a + 1)) (hX.2.2.2.2.2 (a + 1) q).1
    · rw [if_neg q, if_neg q]
      exact ⟨2, by decide, by decide, by decide, by decide, by decide⟩
  rw [kf_congr d1 d2] at a2 a3
  rw [mva_congr d3 d4] at b3 b4
  obtain ⟨s1, s2⟩ := sg_dec c1 hc3 h1 h2
  have e30 : gI B1 0 30 = nI (if lg2 (kf (sb (bt a)) (yc c)) = true then a + 2 else a + 1) := by
    rw [b4, m30, nI_1, nI_1]
    by_cases q : mva (nI (bt a)) (hc c) < 256
    · rw [if_pos q, if_neg (fun e => s1.mp e q)]
    · rw [if_neg q, if_pos (s1.mpr q)]
  have kn : kf (sb (bt a)) (yc c) ≠ 0 := by
    rcases s2 with ⟨_, q⟩ | ⟨_, q⟩
    · rw [q]; decide
    · intro e; rw [e] at q
      rcases of_decide_eq_true q with q | q | q | q | q | q | q | q | q | q | q | q | q <;> exact absurd q.1 (by decide)
  have l2 : lg2 (kf (sb (bt a)) (yc c)) = true → a + 1 < n := fun q => by
    by_cases w : a + 1 < n
    · exact w
    · rw [if_neg w] at d1 d2
      have n1 : ¬ yc c = 61 := fun e => absurd (d1.mpr e) (by decide)
      have n2 : ¬ yc c = 62 := fun e => absurd (d2.mpr e) (by decide)
      have ck : ∀ x y : Int32, ¬ y = 61 → ¬ y = 62 → lg2 (kf x y) = false := fun x y u v => by
        unfold kf
        rw [if_neg u, if_neg v, if_neg u]
        by_cases r1 : x = 40
        · rw [if_pos r1]; rfl
        rw [if_neg r1]
        by_cases r1 : x = 41
        · rw [if_pos r1]; rfl
        rw [if_neg r1]
        by_cases r1 : x = 42
        · rw [if_pos r1]; rfl
        rw [if_neg r1]
        by_cases r1 : x = 43
        · rw [if_pos r1]; rfl
        rw [if_neg r1]
        by_cases r1 : x = 45
        · rw [if_pos r1]; rfl
        rw [if_neg r1]
        by_cases r1 : x = 47
        · rw [if_pos r1]; rfl
        rw [if_neg r1]
        by_cases r1 : x = 59
        · rw [if_pos r1]; rfl
        rw [if_neg r1]
        by_cases r1 : x = 60
        · rw [if_pos r1]; rfl
        rw [if_neg r1]
        by_cases r1 : x = 61
        · rw [if_pos r1]; rfl
        rw [if_neg r1]
        by_cases r1 : x = 62
        · rw [if_pos r1]; rfl
        rw [if_neg r1]; rfl
      rw [ck _ _ n1 n2] at q
      exact absurd q (by decide)
  refine ⟨A1, B1, _, a1, b1, a7, b6, a5, a4.trans x7, b5.trans m31, a3, e30, ?_, ?_, ?_, ?_⟩
  · by_cases q : lg2 (kf (sb (bt a)) (yc c)) = true
    · rw [if_pos q]; exact l2 q
    · rw [if_neg q]; exact ha
  · split <;> omega
  · rw [a2]; exact kn
  · rw [a2, b2, b3]
    rcases s2 with ⟨q1, q2⟩ | ⟨q1, q2⟩
    · exact Or.inr (Or.inl ⟨q2, by rw [q1, if_neg (by decide)]⟩)
    · exact Or.inr (Or.inr (Or.inr (Or.inr (Or.inl ⟨by rw [q1, if_pos rfl], q2⟩))))
theorem next_ok {t n p : Nat} {bt : Nat → Nat} {SX SM : MS} (hX : XL t n bt SX) (hM : ML n bt SM) (h4 : gI SX 48 4 = nI p) (h30 : gI SM 0 30 = nI p) (hp : p ≤ n) :
    ∃ SX1 SM1 a e, fX5_next 48 SX = some SX1 ∧ fX11_token 0 SM = some SM1 ∧ Fr NX SX SX1 ∧ Fr NM SM SM1 ∧ gI SX1 48 8 = gI SX 48 7 ∧ gI SX1 48 7 = nI a ∧ gI SM1 0 31 = nI a ∧ gI SX1 48 4 = nI e ∧ gI SM1 0 30 = nI e ∧ p ≤ a ∧ e ≤ n ∧ ((gI SX1 48 5 = 0 ∧ a = n ∧ e = n) ∨ (gI SX1 48 5 ≠ 0 ∧ a < e)) ∧ TK (gI SX1 48 5) (gI SX1 48 6) (gI SM1 0 32) (gI SM1 0 33) := by
  have hn := hX.2.2.2.2.1
  have px : ∀ j, 4 ≤ j → j ≤ 8 → NX 48 j := fun j a b => ⟨rfl, a, b⟩
  have f8 : Fr NX SX (pI SX 48 8 (gI SX 48 7)) := Fr.rf.pI (px 8 (by decide) (by decide))
  obtain ⟨A1, a1, a2, a3, a4, a5, a6⟩ := X_ws_go (S0 := pI SX 48 8 (gI SX 48 7)) (n - p) p 1000 (pI SX 48 8 (gI SX 48 7)) (by omega) (by omega) (hX.fr f8) (by rw [gI_nek (by decide)]; exact h4) Fr.rf rfl rfl
  obtain ⟨B1, b1, b2, b3, b4⟩ := M_ws_go (S0 := SM) (n - p) p 1000 SM (by omega) (by omega) hM h30 Fr.rf
  have ege := runE_ge (P := fun i => wsB (bt i)) (n := n) (n - p) p
  have ele := runE_le (P := fun i => wsB (bt i)) (n := n) (n - p) p hp
  generalize runE (fun i => wsB (bt i)) n (n - p) p = a at a3 b3 ege ele
  rw [gI_same] at a5
  have fA : Fr NX SX A1 := f8.tr a4
  have e1 : fX5_next 48 SX = fX5_next_60 48 A1 := a1
  have e2 : fX11_token 0 SM = tokM B1 := b1
  have g2 : Fr NX A1 (pI (pI A1 48 7 (nI a)) 48 6 0) := (Fr.rf.pI (px 7 (by decide) (by decide))).pI (px 6 (by decide) (by decide))
  have k2 : Fr NM B1 (pI B1 0 31 (nI a)) := Fr.rf.pI ⟨rfl, by decide, by decide⟩
  have q4 : gI (pI (pI A1 48 7 (nI a)) 48 6 0) 48 4 = nI a := by rw [gI_nek (by decide), gI_nek (by decide)]; exact a3
  have q6 : gI (pI (pI A1 48 7 (nI a)) 48 6 0) 48 6 = 0 := gI_same
  have q7 : gI (pI (pI A1 48 7 (nI a)) 48 6 0) 48 7 = nI a := by rw [gI_nek (by decide), gI_same]
  have q8 : gI (pI (pI A1 48 7 (nI a)) 48 6 0) 48 8 = gI SX 48 7 := by rw [gI_nek (by decide), gI_nek (by decide)]; exact a5
  have r30 : gI (pI B1 0 31 (nI a)) 0 30 = nI a := by rw [gI_nek (by decide)]; exact b3
  have r31 : gI (pI B1 0 31 (nI a)) 0 31 = nI a := gI_same
  have hA := a2.fr g2
  have hB := b2.fr k2
  have fA2 := fA.tr g2
  have fB2 := b4.tr k2
  rw [e1, e2]
  unfold fX5_next_60 tokM
  rw [a3, b3]
  generalize pI (pI A1 48 7 (nI a)) 48 6 0 = A2 at hA fA2 q4 q6 q7 q8 ⊢
  generalize pI B1 0 31 (nI a) = B2 at hB fB2 r30 r31 ⊢
  clear g2 k2
  rw [q4, hA.2.2.1, hA.2.2.2.1, M_here hB r30 ele, Option.bind_some]
  by_cases c : a < n
  · obtain ⟨c1, c2⟩ := hA.2.2.2.2.2 a c
    have nb : ¬ nI (bt a) = -1 := fun e => by
      have := congrArg Int32.toInt e
      rw [nI_toInt (by omega)] at this
      have h2 : (bt a : Int) = -1 := this
      omega
    have wrap : ∀ {SX1 SM1 : MS} {e : Nat}, NO n a A2 B2 SX1 SM1 e → Fr NX SX SX1 ∧ Fr NM SM SM1 ∧ gI SX1 48 8 = gI SX 48 7 ∧ gI SX1 48 7 = nI a ∧ gI SM1 0 31 = nI a ∧ gI SX1 48 4 = nI e ∧ gI SM1 0 30 = nI e ∧ p ≤ a ∧ e ≤ n ∧ ((gI SX1 48 5 = 0 ∧ a = n ∧ e = n) ∨ (gI SX1 48 5 ≠ 0 ∧ a < e)) ∧ TK (gI SX1 48 5) (gI SX1 48 6) (gI SM1 0 32) (gI SM1 0 33) := fun h => by
      obtain ⟨w1, w2, w3, w4, w5, w6, w7, w8, w9, w10, w11⟩ := h
      exact ⟨fA2.tr w1, fB2.tr w2, w3.trans q8, w4, w5, w6, w7, ege, w8, Or.inr ⟨w10, w9⟩, w11⟩
    rw [if_pos ((nI_ltI (by omega) (by omega)).mpr c), lx_1, bnd_nI (show a < 700 by omega) (by decide), if_pos rfl, nI_clamp (by omega), c2, X_let c1, Option.bind_some, if_pos c, if_neg nb, M_let c1, Option.bind_some]
    cases d1 : ltB (bt a) with
    | true =>
      rw [if_neg (show ¬ b2i true = 0 by decide), if_neg (show ¬ b2i true = 0 by decide)]
      obtain ⟨SX1, SM1, e, w1, w2, w3⟩ := wd_ok hA hB c q4 q6 q7 r30 r31 d1
      rw [w1, w2, Option.bind_some]
      exact ⟨SX1, SM1, a, e, rfl, rfl, wrap w3⟩
    | false =>
      rw [if_pos (show b2i false = 0 by decide), if_pos (show b2i false = 0 by decide), if_pos rfl, X_dig c1, Option.bind_some, M_dig c1, Option.bind_some]
      cases d2 : dgB (bt a) with
      | true =>
        rw [if_neg (show ¬ b2i true = 0 by decide), if_neg (show ¬ b2i true = 0 by decide)]
        obtain ⟨SX1, SM1, e, w1, w2, w3⟩ := nm_ok hA hB c q4 q6 q7 r30 r31 d2
        rw [w1, w2, Option.bind_some]
        exact ⟨SX1, SM1, a, e, rfl, rfl, wrap w3⟩
      | false =>
        rw [if_pos (show b2i false = 0 by decide), if_pos (show b2i false = 0 by decide)]
        obtain ⟨SX1, SM1, e, w1, w2, w3⟩ := sg_ok hA hB c q4 q7 r30 r31 d1 d2
        rw [w1, w2, Option.bind_some, Option.bind_some]
        exact ⟨SX1, SM1, a, e, rfl, rfl, wrap w3⟩
  · have ean : a = n := by omega
    rw [if_neg (fun e => c ((nI_ltI (by omega) (by omega)).mp e)), if_neg c, if_pos rfl]
    refine ⟨_, _, a, a, rfl, rfl, fA2.pI (px 5 (by decide) (by decide)), fB2.pI ⟨rfl, by decide, by decide⟩, ?_, ?_, ?_, ?_, ?_, ege, ele, Or.inl ⟨gI_same, ean, ean⟩, Or.inl ⟨gI_same, gI_same⟩⟩
    · rw [gI_nek (by decide)]; exact q8
    · rw [gI_nek (by decide)]; exact q7
    · rw [gI_nek (by decide)]; exact r31
    · rw [gI_nek (by decide)]; exact q4
    · rw [gI_nek (by decide)]; exact r30
