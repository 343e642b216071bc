/-! ===== lines that fill a table, both sides ===== -/
def roomM (S : MS) : Option MS := (fX11_numeral 0 (1 : Int32) (8 : Int32) S).bind fun q51 => (fX11_reads 0 (0 : Int32) q51.1 q51.2).bind fun q53 => (fX11_numeral 0 (1 : Int32) (8 : Int32) q53).bind fun q55 => (fX11_reads 0 (1 : Int32) q55.1 q55.2).bind fun q57 => fX11_line_596 0 q57
def herM (S : MS) : Option MS := (fX11_rowToken 0 S).bind fun q60 => (fX11_reads 0 (2 : Int32) q60.1 q60.2).bind fun q62 => (fX11_columnToken 0 q62).bind fun q64 => (fX11_reads 0 (3 : Int32) q64.1 q64.2).bind fun q66 => fX11_line_596 0 q66
def lampM (S : MS) : Option MS := (fX11_fresher 0 (6 : Int32) S).bind fun q75 => (fX11_fresher 0 (6 : Int32) S).bind fun q79 => (fX11_fresh 0 (gR S 0 8) (4 : Int32) q79 S).bind fun q81 => (if bnd ((4 : Int32) + q75) (lnM (gR S 0 8)) = true then (fX11_rowToken 0 (pI q81.2 (gR S 0 8) (((4 : Int32) + q75).toNatClampNeg) q81.1)).bind fun q85 => (if bnd ((4 : Int32) + q75) (lnM (gR (pI q81.2 (gR S 0 8) (((4 : Int32) + q75).toNatClampNeg) q81.1) 0 9)) = true then (fX11_columnToken 0 (pI q85.2 (gR (pI q81.2 (gR S 0 8) (((4 : Int32) + q75).toNatClampNeg) q81.1) 0 9) (((4 : Int32) + q75).toNatClampNeg) q85.1)).bind fun q89 => (if bnd ((4 : Int32) + q75) (lnM (gR (pI q85.2 (gR (pI q81.2 (gR S 0 8) (((4 : Int32) + q75).toNatClampNeg) q81.1) 0 9) (((4 : Int32) + q75).toNatClampNeg) q85.1) 0 10)) = true then fX11_line_304 0 ((4 : Int32) + q75) (pI q89.2 (gR (pI q85.2 (gR (pI q81.2 (gR S 0 8) (((4 : Int32) + q75).toNatClampNeg) q81.1) 0 9) (((4 : Int32) + q75).toNatClampNeg) q85.1) 0 10) (((4 : Int32) + q75).toNatClampNeg) q89.1) else none) else none) else none)
def stepM (S : MS) : Option MS := (fX11_fresher 0 (7 : Int32) S).bind fun q93 => (fX11_numeral 0 (0 : Int32) (99 : Int32) S).bind fun q96 => (if bnd ((12 : Int32) + q93) (lnM (gR S 0 12)) = true then (fX11_numeral 0 (0 : Int32) (3 : Int32) (pI q96.2 (gR S 0 12) (((12 : Int32) + q93).toNatClampNeg) q96.1)).bind fun q100 => (if bnd ((12 : Int32) + q93) (lnM (gR (pI q96.2 (gR S 0 12) (((12 : Int32) + q93).toNatClampNeg) q96.1) 0 13)) = true then fX11_line_372 0 (pI q100.2 (gR (pI q96.2 (gR S 0 12) (((12 : Int32) + q93).toNatClampNeg) q96.1) 0 13) (((12 : Int32) + q93).toNatClampNeg) q100.1) else none) else none)
def doingM (S : MS) : Option MS := (fX11_fresher 0 (8 : Int32) S).bind fun q104 => (fX11_fresher 0 (8 : Int32) S).bind fun q108 => (fX11_fresh 0 (gR S 0 14) (8 : Int32) q108 S).bind fun q110 => (if bnd ((8 : Int32) + q104) (lnM (gR S 0 14)) = true then (fX11_numeral 0 (0 : Int32) (1 : Int32) (pI q110.2 (gR S 0 14) (((8 : Int32) + q104).toNatClampNeg) q110.1)).bind fun q114 => (if bnd ((8 : Int32) + q104) (lnM (gR (pI q110.2 (gR S 0 14) (((8 : Int32) + q104).toNatClampNeg) q110.1) 0 15)) = true then fX11_line_436 0 ((8 : Int32) + q104) (pI q114.2 (gR (pI q110.2 (gR S 0 14) (((8 : Int32) + q104).toNatClampNeg) q110.1) 0 15) (((8 : Int32) + q104).toNatClampNeg) q114.1) else none) else none)
def manM (S : MS) : Option MS := (fX11_fresher 0 (9 : Int32) S).bind fun q118 => (fX11_fresher 0 (9 : Int32) S).bind fun q122 => (fX11_fresh 0 (gR S 0 19) (4 : Int32) q122 S).bind fun q124 => (if bnd ((4 : Int32) + q118) (lnM (gR S 0 19)) = true then (fX11_rowToken 0 (pI q124.2 (gR S 0 19) (((4 : Int32) + q118).toNatClampNeg) q124.1)).bind fun q128 => (if bnd ((4 : Int32) + q118) (lnM (gR (pI q124.2 (gR S 0 19) (((4 : Int32) + q118).toNatClampNeg) q124.1) 0 20)) = true then fX11_line_532 0 ((4 : Int32) + q118) (pI q128.2 (gR (pI q124.2 (gR S 0 19) (((4 : Int32) + q118).toNatClampNeg) q124.1) 0 20) (((4 : Int32) + q118).toNatClampNeg) q128.1) else none) else none)
def cloudM (S : MS) : Option MS := (fX11_numeral 0 (0 : Int32) (100 : Int32) S).bind fun q132 => (fX11_reads 0 (10 : Int32) q132.1 q132.2).bind fun q134 => fX11_line_596 0 q134
def seedM (S : MS) : Option MS := (fX11_numeral 0 (0 : Int32) (99999 : Int32) S).bind fun q137 => (fX11_reads 0 (11 : Int32) q137.1 q137.2).bind fun q139 => fX11_line_596 0 q139
theorem JJ.mlM {t n : Nat} {bt : Nat → Nat} {SX SM : MS} (h : JJ t n bt SX SM) : ML n bt SM := by
  rcases h with ⟨_, _, h⟩ | ⟨_, _, _, h, _⟩
  · exact h.2.1
  · exact h
theorem JJ.xl {t n : Nat} {bt : Nat → Nat} {SX SM : MS} (h : JJ t n bt SX SM) : XL t n bt SX := by
  rcases h with ⟨_, _, h⟩ | ⟨_, _, h, _⟩
  · exact h.1
  · exact h.1
theorem JJ.ok {t n : Nat} {bt : Nat → Nat} {SX SM : MS} (h : JJ t n bt SX SM) (h0 : gI SX 48 16 = 0) : ∃ a e, JO t n bt a e SX SM := by
  rcases h with h | ⟨f, w, h, _⟩
  · exact h
  · exact absurd (h.2.1.symm.trans h0) h.2.2.1
theorem LSy.pX {g0 n a e o j : Nat} {v : Int32} {SX SM : MS} (h : LSy g0 n a e SX SM) (ho : o = 48 → 9 ≤ j ∧ j ≠ 17) : LSy g0 n a e (pI SX o j v) SM := by
  have g : ∀ k, (k < 9 ∨ k = 17) → gI (pI SX o j v) 48 k = gI SX 48 k := fun k hk => by
    by_cases c : o = 48
    · exact gI_nek (by have := ho c; omega)
    · exact gI_neo (fun e => c e.symm)
  unfold LSy at *
  rw [g 7 (by decide), g 4 (by decide), g 5 (by decide), g 6 (by decide), g 17 (by decide)]
  exact h
theorem LSy.pM {g0 n a e o j : Nat} {v : Int32} {SX SM : MS} (h : LSy g0 n a e SX SM) (ho : o = 0 → j < 30 ∨ (34 ≤ j ∧ j ≠ 35)) : LSy g0 n a e SX (pI SM o j v) := by
  have g : ∀ k, 30 ≤ k → (k < 34 ∨ k = 35) → gI (pI SM o j v) 0 k = gI SM 0 k := fun k hk hl => by
    by_cases c : o = 0
    · exact gI_nek (by have := ho c; omega)
    · exact gI_neo (fun e => c e.symm)
  unfold LSy at *
  rw [g 31 (by decide) (by decide), g 30 (by decide) (by decide), g 32 (by decide) (by decide), g 33 (by decide) (by decide), g 35 (by decide) (by decide)]
  exact h
theorem JO.pX {t n u a e o j : Nat} {bt : Nat → Nat} {v : Int32} {SX SM : MS} (h : JO t n bt a e SX SM) (hu : isT u) (hp : PD u o j) (ho : o = 48 → 11 ≤ j ∧ j ≠ 16 ∧ j ≠ 17) : JO t n bt a e (pI SX o j v) SM := by
  obtain ⟨h1, h2, h3, h4, h5⟩ := h
  refine ⟨h1.fd hu (Fr.rf.pI hp), h2, ?_, h4, h5.pX (fun e => by have := ho e; omega)⟩
  by_cases c : o = 48
  · rw [gI_nek (by have := ho c; omega)]; exact h3
  · rw [gI_neo (fun e => c e.symm)]; exact h3
theorem ML.pM {n o j : Nat} {bt : Nat → Nat} {v : Int32} {S : MS} (h : ML n bt S) (ho : o ≠ 1) (hj : o = 0 → j ≠ 29) : ML n bt (pI S o j v) := by
  obtain ⟨h1, h2, h3, h4⟩ := h
  refine ⟨h1.of rfl, ?_, h3, fun i hi => ?_⟩
  · by_cases c : o = 0
    · rw [gI_nek (fun e => hj c e.symm)]; exact h2
    · rw [gI_neo (fun e => c e.symm)]; exact h2
  · rw [gI_neo (fun e => ho e.symm)]; exact h4 i hi
theorem JO.pM {t n a e o j : Nat} {bt : Nat → Nat} {v : Int32} {SX SM : MS} (h : JO t n bt a e SX SM) (ho : o ≠ 1) (hj : o = 0 → j < 29 ∨ 36 ≤ j) : JO t n bt a e SX (pI SM o j v) := by
  obtain ⟨h1, h2, h3, h4, h5⟩ := h
  refine ⟨h1, h2.pM ho (fun e => by have := hj e; omega), h3, ?_, h5.pM (fun e => by have := hj e; omega)⟩
  by_cases c : o = 0
  · rw [gI_nek (by have := hj c; omega)]; exact h4
  · rw [gI_neo (fun e => c e.symm)]; exact h4
theorem JJ.pX {t n u o j : Nat} {bt : Nat → Nat} {v : Int32} {SX SM : MS} (h : JJ t n bt SX SM) (hu : isT u) (hp : PD u o j) (ho : o = 48 → 11 ≤ j ∧ j ≠ 16 ∧ j ≠ 17) : JJ t n bt (pI SX o j v) SM := by
  rcases h with ⟨a, e, h⟩ | ⟨f, w, h1, h2⟩
  · exact Or.inl ⟨a, e, h.pX hu hp ho⟩
  · exact Or.inr ⟨f, w, h1.wr hu hp ho, h2⟩
theorem JJ.pM {t n o j : Nat} {bt : Nat → Nat} {v : Int32} {SX SM : MS} (h : JJ t n bt SX SM) (ho : o ≠ 1) (hj : o = 0 → j < 29 ∨ 36 ≤ j) : JJ t n bt SX (pI SM o j v) := by
  rcases h with ⟨a, e, h⟩ | ⟨f, w, h1, h2, h3, h4⟩
  · exact Or.inl ⟨a, e, h.pM ho hj⟩
  · refine Or.inr ⟨f, w, h1, h2.pM ho (fun e => by have := hj e; omega), ?_, ?_⟩
    · by_cases c : o = 0
      · rw [gI_nek (by have := hj c; omega)]; exact h3
      · rw [gI_neo (fun e => c e.symm)]; exact h3
    · by_cases c : o = 0
      · rw [gI_nek (by have := hj c; omega)]; exact h4
      · rw [gI_neo (fun e => c e.symm)]; exact h4
/-- bounds of what a column holds -/
def rgM (q c : Nat) : Nat := ([[23, 3, 7], [1073741823, 7, 7, 9], [99, 3], [1073741823, 1, 7, 7, 99], [1073741823, 7, 7]].getD q []).getD c 0
def rgL (q c : Nat) : Nat := if (q = 1 ∧ c = 3) ∨ (q = 3 ∧ c = 4) then 1 else 0
def RWC (u q i c : Nat) (SX SM : MS) : Prop := ∀ j, j < c → ∃ x, gI SX (u + 4 + 2 * q) (i * wid q + j) = nI x ∧ gI SM (mB q + j) (mxq q + i) = nI x ∧ rgL q j ≤ x ∧ x ≤ rgM q j
def TFX (u q k o j : Nat) : Prop := NY o j ∨ (o = u + 4 + 2 * q ∧ k * wid q ≤ j)
def TFM (q k o j : Nat) : Prop := NN o j ∨ (mB q ≤ o ∧ o < mB q + wid q ∧ j = mxq q + k)
def ST (t n : Nat) (bt : Nat → Nat) (u q k c : Nat) (S0 R0 SX SM : MS) : Prop := JJ t n bt SX SM ∧ TBL SX (u + 3 + 2 * q) (mxq q) (wid q) k ∧ Fr (TFX u q k) S0 SX ∧ Fr (TFM q k) R0 SM ∧ (gI SX 48 16 = 0 → RWC u q k c SX SM)
theorem TBL.fr {P : Nat → Nat → Prop} {S S1 : MS} {o m w n : Nat} (h : TBL S o m w n) (f : Fr P S S1) (hp : ∀ j, ¬ P o j) : TBL S1 o m w n := by
  obtain ⟨h0, h1, h2, h3, h4⟩ := h
  exact ⟨by rw [f.ref]; exact h0, by rw [f.2 _ _ (hp 1)]; exact h1, by rw [f.2 _ _ (hp 2)]; exact h2, by rw [f.2 _ _ (hp 3)]; exact h3, h4⟩
theorem mBq : ∀ q, q < 5 → 4 ≤ mB q ∧ mB q + wid q ≤ 21 ∧ 0 < wid q ∧ wid q ≤ 5 ∧ mxq q ≤ 12 := by decide
theorem lmq : ∀ q, q < 5 → ∀ c, c < 5 → c < wid q → lnM (mB q + c) = 2 * mxq q := by decide
theorem st_num {t n u q k c l hh : Nat} {bt : Nat → Nat} {S0 R0 SX SM : MS} (hu : isT u) (hq : q < 5) (h : ST t n bt u q k c S0 R0 SX SM) (hk : k < mxq q) (hc : c < wid q) (hl : l ≤ hh) (hm : hh ≤ 99999) (r1 : rgL q c ≤ l) (r2 : hh ≤ rgM q c) :
    ∃ x SXa SMa, fX5_number 48 (nI l) (nI hh) SX = some (nI x, SXa) ∧ fX7_put (u + 3 + 2 * q) (nI c) (nI x) SXa = some (pI SXa (u + 4 + 2 * q) (k * wid q + c) (nI x)) ∧ fX11_numeral 0 (nI l) (nI hh) SM = some (nI x, SMa) ∧ Fr NN SM SMa ∧ ST t n bt u q k (c + 1) S0 R0 (pI SXa (u + 4 + 2 * q) (k * wid q + c) (nI x)) (pI SMa (mB q + c) (mxq q + k) (nI x)) := by
  obtain ⟨h1, h2, h3, h4, h5⟩ := h
  obtain ⟨x, SXa, SMa, a1, a2, a3, a4, a5, a6, a7, a8⟩ := j_num h1 hl hm
  have hb := mBq q hq
  have hu' := hu
  unfold isT at hu'
  have hT : TBL SXa (u + 3 + 2 * q) (mxq q) (wid q) k := h2.fr a6 (fun j hp => by unfold NY at hp; omega)
  refine ⟨x, SXa, SMa, a1, ?_, a2, a7, ?_, hT.pI (by omega), ?_, ?_, ?_⟩
  · have := X_put (v := nI x) hT hk hc
    rw [this, show u + 3 + 2 * q + 1 = u + 4 + 2 * q by omega]
  · exact (a5.pX hu (Or.inr (Or.inr (Or.inr (Or.inr (Or.inl ⟨by omega, by omega, fun hh => by omega⟩))))) (fun e => by omega)).pM (by omega) (fun e => by omega)
  · exact (h3.tr (a6.mo (fun _ _ hp => Or.inl hp))).pI (Or.inr ⟨rfl, by omega⟩)
  · exact (h4.tr (a7.mo (fun _ _ hp => Or.inl hp))).pI (Or.inr ⟨by omega, by omega, rfl⟩)
  · intro hz
    rw [gI_neo (by omega)] at hz
    obtain ⟨⟨_, _, g⟩, _⟩ := a8 (a5.ok hz)
    have h5' := h5 g.2.2.1
    intro j hj
    by_cases e : j = c
    · subst e
      exact ⟨x, gI_same, gI_same, by omega, by omega⟩
    · rw [gI_nek (by omega), gI_neo (by omega), a6.2 _ _ (fun hp => by unfold NY at hp; omega), a7.2 _ _ (fun hp => by unfold NN at hp; omega)]
      exact h5' j (by omega)
def D2 (u q : Nat) (SX SM : MS) (k : Nat) : Prop := k ≤ mxq q ∧ gI SX (u + 3 + 2 * q) 3 = nI k ∧ gI SM 2 (18 + q) = nI k ∧ ∀ i, i < k → RWC u q i (wid q) SX SM
theorem st_name {t n u q k a e : Nat} {bt : Nat → Nat} {SX SM : MS} (hu : isT u) (hq : q < 5) (h : JO t n bt a e SX SM) (hT : TBL SX (u + 3 + 2 * q) (mxq q) (wid q) k) (hk : k < mxq q) (hD : ∀ i, i < k → RWC u q i (wid q) SX SM) (r1 : rgL q 0 = 0) (r2 : rgM q 0 = 1073741823) :
    ∃ v SX1 SMa, fX5_takeName 48 (u + 3 + 2 * q) SX = some SX1 ∧ fX11_fresh 0 (mB q) (nI (mxq q)) (nI k) SM = some (v, SMa) ∧ Fr NN SM SMa ∧ ST t n bt u q k 1 SX SM SX1 (pI SMa (mB q) (mxq q + k) v) := by
  have hb := mBq q hq
  have hu' := hu
  unfold isT at hu'
  have tk := h.2.2.2.2.2.2.2.2.2.2
  have pd : PD u (u + 4 + 2 * q) (k * wid q + 0) := Or.inr (Or.inr (Or.inr (Or.inr (Or.inl ⟨by omega, by omega, fun hh => by omega⟩))))
  have e1 : u + 3 + 2 * q + 1 = u + 4 + 2 * q := by omega
  have fl : ∀ f : Int32, f ≠ 0 → ∃ v SX1 SMa, (fX5_fail 48 f (gI SX 48 7) SX).bind (fun q9 => fX5_takeName_42 48 (u + 3 + 2 * q) q9) = some SX1 ∧ (fX11_wrong 0 f SM).bind (fun q9 => fX11_fresh_44 0 q9) = some (v, SMa) ∧ Fr NN SM SMa ∧ ST t n bt u q k 1 SX SM SX1 (pI SMa (mB q) (mxq q + k) v) := fun f hf => by
    obtain ⟨SX1, SM1, a1, a2, a3, a4, a5⟩ := j_fail h hf
    obtain ⟨ff, ww, c1, c2, c3, c4⟩ := a3
    have hT1 : TBL SX1 (u + 3 + 2 * q) (mxq q) (wid q) k := hT.fr a4 (fun j hp => by unfold NY at hp; omega)
    have p1 := X_put (c := 0) (v := gI SX1 48 6) hT1 hk hb.2.2.1
    have p1' : fX7_put (u + 3 + 2 * q) (0 : Int32) (gI SX1 48 6) SX1 = some (pI SX1 (u + 3 + 2 * q + 1) (k * wid q + 0) (gI SX1 48 6)) := p1
    rw [e1] at p1'
    have c1' : XF t n bt ff ww (pI SX1 (u + 4 + 2 * q) (k * wid q + 0) (gI SX1 48 6)) := c1.wr hu pd (fun e => by omega)
    obtain ⟨SX2, d1, d2, d3⟩ := X_next_f c1'
    refine ⟨0, SX2, SM1, ?_, ?_, a5, ?_, ?_, ?_, ?_, ?_⟩
    · rw [a1, Option.bind_some]
      unfold fX5_takeName_42
      rw [p1', Option.bind_some, d1, Option.bind_some]
    · rw [a2, Option.bind_some]
      unfold fX11_fresh_44
      rw [if_neg (by rw [c3]; exact c1.2.2.1)]
    · exact JJ.pM (Or.inr ⟨ff, ww, d2, c2, c3, c4⟩) (by omega) (fun e => by omega)
    · exact (hT1.pI (by omega)).fr d3 (fun j hp => by unfold NY at hp; omega)
    · exact ((a4.mo (fun _ _ hp => Or.inl hp)).pI (Or.inr ⟨rfl, by omega⟩)).tr (d3.mo (fun _ _ hp => Or.inl hp))
    · exact (a5.mo (fun _ _ hp => Or.inl hp)).pI (Or.inr ⟨by omega, by omega, rfl⟩)
    · intro hz
      exact absurd (d2.2.1.symm.trans hz) d2.2.2.1
  unfold fX5_takeName fX11_fresh
  rw [if_pos h.2.2.2.1]
  by_cases c : gI SX 48 5 = 2
  · have c2 := tk.own.mp c
    rw [if_pos c, if_pos c2]
    obtain ⟨x, ex, ey, x1, x2⟩ : ∃ x, gI SX 48 6 = nI x ∧ gI SM 0 33 = nI x ∧ 0 < x ∧ x < 1073741824 := by
      rcases tk with ⟨g, _⟩ | ⟨g, _⟩ | ⟨_, _, x, g⟩ | ⟨g, _⟩ | ⟨g, _⟩ | ⟨g, _⟩
      · rw [c] at g; exact absurd g (by decide)
      · rw [c] at g; exact absurd g (by decide)
      · exact ⟨x, g⟩
      · rw [c] at g; exact absurd g (by decide)
      · rw [c2] at g; exact absurd g (by decide)
      · rw [c2] at g; exact absurd g (by decide)
    have f1 : fX7_find (u + 3 + 2 * q) (0 : Int32) (gI SX 48 6) SX = some _ := X_find (c := 0) (v := gI SX 48 6) hT hb.2.2.1
    have lm0 := lmq q hq 0 (by decide) hb.2.2.1
    rw [Nat.add_zero] at lm0
    have f2 := M_found (S := SM) (o := mB q) (a := mxq q) (n := k) (v := gI SM 0 33) (by omega) (by omega)
    have ef : fnd (fun k_1 => gI SX (u + 3 + 2 * q + 1) (k_1 * wid q + 0)) (gI SX 48 6) k 0 = fnd (fun k_1 => gI SM (mB q) (mxq q + k_1)) (gI SM 0 33) k 0 := by
      rw [ex, ey]
      refine fnd_congr k 0 (fun i _ hi => ?_)
      obtain ⟨z, z1, z2, _⟩ := hD i (by omega) 0 hb.2.2.1
      rw [e1, z1, ← z2, Nat.add_zero]
    rw [f1, Option.bind_some, f2, Option.bind_some, ef]
    by_cases d : fnd (fun k_1 => gI SM (mB q) (mxq q + k_1)) (gI SM 0 33) k 0 = -1
    · rw [if_pos d, if_pos d]
      unfold fX5_takeName_42 fX11_fresh_44
      have p1 : fX7_put (u + 3 + 2 * q) (0 : Int32) (gI SX 48 6) SX = some (pI SX (u + 3 + 2 * q + 1) (k * wid q + 0) (gI SX 48 6)) := X_put (c := 0) (v := gI SX 48 6) hT hk hb.2.2.1
      rw [e1] at p1
      have h' : JO t n bt a e (pI SX (u + 4 + 2 * q) (k * wid q + 0) (gI SX 48 6)) SM := h.pX hu pd (fun e => by omega)
      obtain ⟨SX1, SM1, a1, e1', u1, u2, u3, u4, u5, u6, _⟩ := j_next h'
      rw [p1, Option.bind_some, u1, Option.bind_some, if_pos h.2.2.2.1, u2, Option.bind_some]
      refine ⟨_, SX1, SM1, rfl, rfl, u5.mo NM_NN, ?_, ?_, ?_, ?_, ?_⟩
      · exact Or.inl ⟨a1, e1', u3.pM (by omega) (fun e => by omega)⟩
      · exact (hT.pI (by omega)).fr u4 (fun j hp => by unfold NX at hp; omega)
      · exact (Fr.rf.pI (Or.inr ⟨rfl, by omega⟩)).tr (u4.mo (fun _ _ hp => Or.inl (NX_NY _ _ hp)))
      · exact ((u5.mo (fun _ _ hp => Or.inl (NM_NN _ _ hp))).pI (Or.inr ⟨by omega, by omega, rfl⟩))
      · intro _ j hj
        have j0 : j = 0 := by omega
        subst j0
        refine ⟨x, ?_, ?_, by omega, by omega⟩
        · rw [u4.2 _ _ (fun hp => by unfold NX at hp; omega), gI_same]; exact ex
        · rw [Nat.add_zero, gI_same]; exact ey
    · rw [if_neg d, if_neg d]
      exact fl 3 (by decide)
  · rw [if_neg c, if_neg (fun g => c (tk.own.mpr g))]
    exact fl 1 (by decide)
/-- the row is closed -/
theorem st_close {t n u q k : Nat} {bt : Nat → Nat} {S0 R0 SX SM : MS} (hu : isT u) (hq : q < 5) (h : ST t n bt u q k (wid q) S0 R0 SX SM) (hD : D2 u q S0 R0 k) (hk : k < mxq q) :
    fX7_close (u + 3 + 2 * q) SX = some (pI SX (u + 3 + 2 * q) 3 (nI (k + 1))) ∧ gI SM 2 (18 + q) = nI k ∧ JJ t n bt (pI SX (u + 3 + 2 * q) 3 (nI (k + 1))) (pI SM 2 (18 + q) (nI (k + 1))) ∧ (gI SX 48 16 = 0 → D2 u q (pI SX (u + 3 + 2 * q) 3 (nI (k + 1))) (pI SM 2 (18 + q) (nI (k + 1))) (k + 1)) := by
  obtain ⟨h1, h2, h3, h4, h5⟩ := h
  have hb := mBq q hq
  have hu' := hu
  unfold isT at hu'
  refine ⟨?_, ?_, ?_, ?_⟩
  · unfold fX7_close
    rw [h2.2.1, h2.2.2.2.1, if_neg (nle (by omega) hk), nI_1]
  · rw [h4.2 _ _ (fun hp => by unfold TFM NN at hp; omega)]; exact hD.2.2.1
  · exact (h1.pX hu (Or.inr (Or.inr (Or.inr (Or.inr (Or.inl ⟨by omega, by omega, fun _ => rfl⟩))))) (fun e => by omega)).pM (by decide) (fun e => by omega)
  · intro hz
    refine ⟨by omega, gI_same, gI_same, fun i hi j hj => ?_⟩
    rw [gI_neo (by omega), gI_neo (by omega)]
    by_cases c : i = k
    · subst c; exact h5 hz j hj
    · have lt : i * wid q + j < k * wid q := tbl_idx (n := k) (by omega) (Nat.le_refl _) hj
      rw [h3.2 _ _ (fun hp => by unfold TFX NY at hp; omega), h4.2 _ _ (fun hp => by unfold TFM NN at hp; omega)]
      exact hD.2.2.2 i (by omega) j hj
