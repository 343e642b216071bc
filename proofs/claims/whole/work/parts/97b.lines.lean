/-! ===== the lines of lamps, steps, doings and men ===== -/
theorem M_fre {S : MS} (hM : MR S) {j : Nat} (hj : j < 13) : fX11_fresher 0 (nI j) S = some (gI S 2 (13 + j)) := by
  unfold fX11_fresher
  rw [mr_3 hM, lm_2, show (13 : Int32) + nI j = nI (13 + j) from nI_add 13 j, bnd_nI (by omega) (by decide), if_pos rfl, nI_clamp (by omega)]
theorem M_rea {S : MS} (hM : MR S) {j : Nat} {v : Int32} (hj : j < 13) : fX11_reads 0 (nI j) v S = some (pI S 2 (13 + j) v) := by
  unfold fX11_reads
  rw [mr_3 hM, lm_2, show (13 : Int32) + nI j = nI (13 + j) from nI_add 13 j, bnd_nI (by omega) (by decide), if_pos rfl, nI_clamp (by omega)]
theorem M_row {S : MS} (hM : MR S) {r : Nat} (hr : gI S 2 13 = nI r) (h1 : 1 ≤ r) : fX11_rowToken 0 S = (fX11_numeral 0 0 (nI (r - 1)) S).bind fun q3 => some (q3.1, q3.2) := by
  unfold fX11_rowToken
  have e : fX11_fresher 0 (0 : Int32) S = _ := M_fre hM (j := 0) (by decide)
  rw [e, Option.bind_some, hr, show nI r - 1 = nI (r - 1) from nI_subN h1]
theorem M_col {S : MS} (hM : MR S) {r : Nat} (hr : gI S 2 14 = nI r) (h1 : 1 ≤ r) : fX11_columnToken 0 S = (fX11_numeral 0 0 (nI (r - 1)) S).bind fun q3 => some (q3.1, q3.2) := by
  unfold fX11_columnToken
  have e : fX11_fresher 0 (1 : Int32) S = _ := M_fre hM (j := 1) (by decide)
  rw [e, Option.bind_some, hr, show nI r - 1 = nI (r - 1) from nI_subN h1]
/-- the room's sides, on both sides -/
def RC (u r c : Nat) (SX SM : MS) : Prop := gR SX 48 9 = u ∧ gI SX u 8 = nI r ∧ gI SM 2 13 = nI r ∧ 1 ≤ r ∧ r ≤ 8 ∧ gI SX u 9 = nI c ∧ gI SM 2 14 = nI c ∧ 1 ≤ c ∧ c ≤ 8
theorem RC.fr {u r c : Nat} {P Q : Nat → Nat → Prop} {SX SM SX1 SM1 : MS} (h : RC u r c SX SM) (f : Fr P SX SX1) (g : Fr Q SM SM1) (p8 : ¬ P u 8) (p9 : ¬ P u 9) (q3 : ¬ Q 2 13) (q4 : ¬ Q 2 14) : RC u r c SX1 SM1 := by
  obtain ⟨h0, h1, h2, h3, h4, h5, h6, h7⟩ := h
  exact ⟨by rw [f.ref]; exact h0, by rw [f.2 _ _ p8]; exact h1, by rw [g.2 _ _ q3]; exact h2, h3, h4, by rw [f.2 _ _ p9]; exact h5, by rw [g.2 _ _ q4]; exact h6, h7⟩
theorem RC.st {t n u q k c r c' : Nat} {bt : Nat → Nat} {S0 R0 SX SM : MS} (hu : isT u) (hq : q < 5) (h : RC u r c' S0 R0) (s : ST t n bt u q k c S0 R0 SX SM) : RC u r c' SX SM := by
  have hb := mBq q hq
  unfold isT at hu
  exact h.fr s.2.2.1 s.2.2.2.1 (fun hp => by unfold TFX NY at hp; omega) (fun hp => by unfold TFX NY at hp; omega) (fun hp => by unfold TFM NN at hp; omega) (fun hp => by unfold TFM NN at hp; omega)
theorem RC.rx {u r c : Nat} {SX SM : MS} (h : RC u r c SX SM) : gI SX (gR SX 48 9) 8 - 1 = nI (r - 1) := by rw [h.1, h.2.1]; exact nI_subN h.2.2.2.1
theorem RC.cx {u r c : Nat} {SX SM : MS} (h : RC u r c SX SM) : gI SX (gR SX 48 9) 9 - 1 = nI (c - 1) := by rw [h.1, h.2.2.2.2.2.1]; exact nI_subN h.2.2.2.2.2.2.2.1
def LFX (u q o j : Nat) : Prop := NY o j ∨ o = u + 4 + 2 * q ∨ (o = u + 3 + 2 * q ∧ j = 3)
def LFM (q o j : Nat) : Prop := NN o j ∨ (mB q ≤ o ∧ o < mB q + wid q ∧ mxq q ≤ j) ∨ (o = 2 ∧ j = 18 + q)
def LC (t n : Nat) (bt : Nat → Nat) (u q k : Nat) (SX SM SX1 SM1 : MS) : Prop := JJ t n bt SX1 SM1 ∧ Fr (LFX u q) SX SX1 ∧ Fr (LFM q) SM SM1 ∧ (gI SX1 48 16 = 0 → D2 u q SX1 SM1 (k + 1)) ∧ gI SX1 (u + 3 + 2 * q) 3 = nI (k + 1)
theorem st_fin {t n u q k : Nat} {bt : Nat → Nat} {S0 R0 SX SM : MS} (hu : isT u) (hq : q < 5) (h : ST t n bt u q k (wid q) S0 R0 SX SM) (hD : D2 u q S0 R0 k) (hk : k < mxq q) : LC t n bt u q k S0 R0 (pI SX (u + 3 + 2 * q) 3 (nI (k + 1))) (pI SM 2 (18 + q) (nI (k + 1))) := by
  obtain ⟨_, _, c3, c4⟩ := st_close hu hq h hD hk
  refine ⟨c3, ?_, ?_, fun hz => c4 ?_, gI_same⟩
  · exact (h.2.2.1.mo (fun o j hp => by rcases hp with hp | hp; exact Or.inl hp; exact Or.inr (Or.inl hp.1))).pI (Or.inr (Or.inr ⟨rfl, rfl⟩))
  · exact (h.2.2.2.1.mo (fun o j hp => by rcases hp with hp | hp; exact Or.inl hp; exact Or.inr (Or.inl ⟨hp.1, hp.2.1, by have := hp.2.2; omega⟩))).pI (Or.inr (Or.inr ⟨rfl, rfl⟩))
  · unfold isT at hu
    rw [gI_neo (by omega)] at hz; exact hz
theorem L_lamp {t n u k r c a e : Nat} {bt : Nat → Nat} {SX SM : MS} (hu : isT u) (h : JO t n bt a e SX SM) (hT : TBL SX (u + 5) 4 4 k) (hr : RC u r c SX SM) (hD : D2 u 1 SX SM k) (hk : k < 4) : ∃ SX1 SM1, lampX (u + 5) SX = some SX1 ∧ lampM SM = fX11_line_596 0 SM1 ∧ LC t n bt u 1 k SX SM SX1 SM1 := by
  have hM := h.2.1.1
  have ec : gI SM 2 19 = nI k := hD.2.2.1
  have ef : fX11_fresher 0 (6 : Int32) SM = some (nI k) := (M_fre hM (j := 6) (by decide)).trans (congrArg some ec)
  have ei : (4 : Int32) + nI k = nI (4 + k) := nI_add 4 k
  have hb : bnd (nI (4 + k)) 8 = true := bnd_nI (by omega) (by decide)
  have hcl : (nI (4 + k)).toNatClampNeg = 4 + k := nI_clamp (by omega)
  unfold lampX lampM fX11_line_304
  rw [ef, Option.bind_some, Option.bind_some, ei, hcl]
  obtain ⟨v, A1, B1, n1, n2, n3, s1⟩ := st_name (q := 1) hu (by decide) h hT hk hD.2.2.2 (by decide) (by decide)
  have n1' : fX5_takeName 48 (u + 5) SX = some A1 := n1
  have n2' : fX11_fresh 0 7 (4 : Int32) (nI k) SM = some (v, B1) := n2
  have s1' : ST t n bt u 1 k 1 SX SM A1 (pI B1 7 (4 + k) v) := s1
  have r1 := hr.st hu (by decide) s1'
  have m1 := s1'.1.mlM.1
  rw [n1', Option.bind_some, mr_8 hM, n2', Option.bind_some]
  dsimp only
  rw [lm_7, hb, if_pos rfl]
  obtain ⟨x2, A2, B2, p2, g2, w2, f2, s2⟩ := st_num (q := 1) (c := 1) (l := 0) (hh := (r - 1)) hu (by decide) s1' hk (by decide) (by omega) (by have := r1.2.2.2; omega) (by decide) (show r - 1 ≤ 7 by have := r1.2.2.2; omega)
  have g2' : fX7_put (u + 5) (1 : Int32) (nI x2) A2 = some (pI A2 (u + 6) (k * 4 + 1) (nI x2)) := g2
  have s2' : ST t n bt u 1 k 2 SX SM (pI A2 (u + 6) (k * 4 + 1) (nI x2)) (pI B2 8 (4 + k) (nI x2)) := s2
  have p2' : fX5_number 48 (0 : Int32) (nI (r - 1)) A1 = some (nI x2, A2) := p2
  have w2' : fX11_numeral 0 (0 : Int32) (nI (r - 1)) (pI B1 7 (4 + k) v) = some (nI x2, B2) := w2
  rw [r1.rx, p2', Option.bind_some, M_row m1 r1.2.2.1 r1.2.2.2.1, w2', Option.bind_some, Option.bind_some]
  dsimp only
  rw [g2', Option.bind_some, mr_9 m1, lm_8, hb, if_pos rfl]
  have r2 := hr.st hu (by decide) s2'
  have m2 := s2'.1.mlM.1
  obtain ⟨x3, A3, B3, p3, g3, w3, f3, s3⟩ := st_num (q := 1) (c := 2) (l := 0) (hh := (c - 1)) hu (by decide) s2' hk (by decide) (by omega) (by have := r2.2.2.2; omega) (by decide) (show c - 1 ≤ 7 by have := r2.2.2.2; omega)
  have g3' : fX7_put (u + 5) (2 : Int32) (nI x3) A3 = some (pI A3 (u + 6) (k * 4 + 2) (nI x3)) := g3
  have s3' : ST t n bt u 1 k 3 SX SM (pI A3 (u + 6) (k * 4 + 2) (nI x3)) (pI B3 9 (4 + k) (nI x3)) := s3
  have p3' : fX5_number 48 (0 : Int32) (nI (c - 1)) (pI A2 (u + 6) (k * 4 + 1) (nI x2)) = some (nI x3, A3) := p3
  have w3' : fX11_numeral 0 (0 : Int32) (nI (c - 1)) (pI B2 8 (4 + k) (nI x2)) = some (nI x3, B3) := w3
  rw [r2.cx, p3', Option.bind_some, M_col m2 r2.2.2.2.2.2.2.1 r2.2.2.2.2.2.2.2.1, w3', Option.bind_some, Option.bind_some]
  dsimp only
  rw [g3', Option.bind_some, mr_10 m2, lm_9, hb, if_pos rfl]
  have r3 := hr.st hu (by decide) s3'
  have m3 := s3'.1.mlM.1
  obtain ⟨x4, A4, B4, p4, g4, w4, f4, s4⟩ := st_num (q := 1) (c := 3) (l := 1) (hh := 9) hu (by decide) s3' hk (by decide) (by decide) (by decide) (by decide) (by decide)
  have g4' : fX7_put (u + 5) (3 : Int32) (nI x4) A4 = some (pI A4 (u + 6) (k * 4 + 3) (nI x4)) := g4
  have s4' : ST t n bt u 1 k 4 SX SM (pI A4 (u + 6) (k * 4 + 3) (nI x4)) (pI B4 10 (4 + k) (nI x4)) := s4
  have p4' : fX5_number 48 (1 : Int32) (9 : Int32) (pI A3 (u + 6) (k * 4 + 2) (nI x3)) = some (nI x4, A4) := p4
  have w4' : fX11_numeral 0 (1 : Int32) (9 : Int32) (pI B3 9 (4 + k) (nI x3)) = some (nI x4, B4) := w4
  rw [p4', Option.bind_some, w4', Option.bind_some]
  dsimp only
  rw [g4', Option.bind_some, mr_11 m3, lm_10, hb, if_pos rfl]
  have r4 := hr.st hu (by decide) s4'
  have m4 := s4'.1.mlM.1
  obtain ⟨c1, c2, _, _⟩ := st_close hu (by decide) s4' hD hk
  have c1' : fX7_close (u + 5) (pI A4 (u + 6) (k * 4 + 3) (nI x4)) = some (pI (pI A4 (u + 6) (k * 4 + 3) (nI x4)) (u + 5) 3 (nI (k + 1))) := c1
  have eg : fX11_fresher 0 (6 : Int32) (pI B4 10 (4 + k) (nI x4)) = some (nI k) := (M_fre m4 (j := 6) (by decide)).trans (congrArg some c2)
  have eh : fX11_reads 0 (6 : Int32) (nI k + 1) (pI B4 10 (4 + k) (nI x4)) = some (pI (pI B4 10 (4 + k) (nI x4)) 2 19 (nI k + 1)) := M_rea m4 (j := 6) (by decide)
  rw [c1', Option.bind_some, eg, Option.bind_some, eh, Option.bind_some, nI_1]
  exact ⟨_, _, rfl, rfl, st_fin hu (by decide) s4' hD hk⟩
theorem L_step {t n u k r c a e : Nat} {bt : Nat → Nat} {SX SM : MS} (hu : isT u) (h : JO t n bt a e SX SM) (hT : TBL SX (u + 7) 12 2 k) (hr : RC u r c SX SM) (hD : D2 u 2 SX SM k) (hk : k < 12) : ∃ SX1 SM1, stepX (u + 7) SX = some SX1 ∧ stepM SM = fX11_line_596 0 SM1 ∧ LC t n bt u 2 k SX SM SX1 SM1 := by
  have hM := h.2.1.1
  have ec : gI SM 2 20 = nI k := hD.2.2.1
  have ef : fX11_fresher 0 (7 : Int32) SM = some (nI k) := (M_fre hM (j := 7) (by decide)).trans (congrArg some ec)
  have ei : (12 : Int32) + nI k = nI (12 + k) := nI_add 12 k
  have hb : bnd (nI (12 + k)) 24 = true := bnd_nI (by omega) (by decide)
  have hcl : (nI (12 + k)).toNatClampNeg = 12 + k := nI_clamp (by omega)
  unfold stepX stepM fX11_line_372
  rw [ef, Option.bind_some, ei, hcl]
  have s0 : ST t n bt u 2 k 0 SX SM SX SM := ⟨Or.inl ⟨a, e, h⟩, hT, Fr.rf, Fr.rf, fun _ j hj => absurd hj (by omega)⟩
  obtain ⟨x1, A1, B1, p1, g1, w1, f1, s1⟩ := st_num (q := 2) (c := 0) (l := 0) (hh := 99) hu (by decide) s0 hk (by decide) (by decide) (by decide) (by decide) (by decide)
  have g1' : fX7_put (u + 7) (0 : Int32) (nI x1) A1 = some (pI A1 (u + 8) (k * 2 + 0) (nI x1)) := g1
  have s1' : ST t n bt u 2 k 1 SX SM (pI A1 (u + 8) (k * 2 + 0) (nI x1)) (pI B1 11 (12 + k) (nI x1)) := s1
  have p1' : fX5_number 48 (0 : Int32) (99 : Int32) SX = some (nI x1, A1) := p1
  have w1' : fX11_numeral 0 (0 : Int32) (99 : Int32) SM = some (nI x1, B1) := w1
  rw [p1', Option.bind_some, w1', Option.bind_some]
  dsimp only
  rw [g1', Option.bind_some, mr_12 hM, lm_11, hb, if_pos rfl]
  have r1 := hr.st hu (by decide) s1'
  have m1 := s1'.1.mlM.1
  obtain ⟨x2, A2, B2, p2, g2, w2, f2, s2⟩ := st_num (q := 2) (c := 1) (l := 0) (hh := 3) hu (by decide) s1' hk (by decide) (by decide) (by decide) (by decide) (by decide)
  have g2' : fX7_put (u + 7) (1 : Int32) (nI x2) A2 = some (pI A2 (u + 8) (k * 2 + 1) (nI x2)) := g2
  have s2' : ST t n bt u 2 k 2 SX SM (pI A2 (u + 8) (k * 2 + 1) (nI x2)) (pI B2 12 (12 + k) (nI x2)) := s2
  have p2' : fX5_number 48 (0 : Int32) (3 : Int32) (pI A1 (u + 8) (k * 2 + 0) (nI x1)) = some (nI x2, A2) := p2
  have w2' : fX11_numeral 0 (0 : Int32) (3 : Int32) (pI B1 11 (12 + k) (nI x1)) = some (nI x2, B2) := w2
  rw [p2', Option.bind_some, w2', Option.bind_some]
  dsimp only
  rw [g2', Option.bind_some, mr_13 m1, lm_12, hb, if_pos rfl]
  have r2 := hr.st hu (by decide) s2'
  have m2 := s2'.1.mlM.1
  obtain ⟨c1, c2, _, _⟩ := st_close hu (by decide) s2' hD hk
  have c1' : fX7_close (u + 7) (pI A2 (u + 8) (k * 2 + 1) (nI x2)) = some (pI (pI A2 (u + 8) (k * 2 + 1) (nI x2)) (u + 7) 3 (nI (k + 1))) := c1
  have eg : fX11_fresher 0 (7 : Int32) (pI B2 12 (12 + k) (nI x2)) = some (nI k) := (M_fre m2 (j := 7) (by decide)).trans (congrArg some c2)
  have eh : fX11_reads 0 (7 : Int32) (nI k + 1) (pI B2 12 (12 + k) (nI x2)) = some (pI (pI B2 12 (12 + k) (nI x2)) 2 20 (nI k + 1)) := M_rea m2 (j := 7) (by decide)
  rw [c1', Option.bind_some, eg, Option.bind_some, eh, Option.bind_some, nI_1]
  exact ⟨_, _, rfl, rfl, st_fin hu (by decide) s2' hD hk⟩
theorem L_doing {t n u k r c a e : Nat} {bt : Nat → Nat} {SX SM : MS} (hu : isT u) (h : JO t n bt a e SX SM) (hT : TBL SX (u + 9) 8 5 k) (hr : RC u r c SX SM) (hD : D2 u 3 SX SM k) (hk : k < 8) : ∃ SX1 SM1, doingX (u + 9) SX = some SX1 ∧ doingM SM = fX11_line_596 0 SM1 ∧ LC t n bt u 3 k SX SM SX1 SM1 := by
  have hM := h.2.1.1
  have ec : gI SM 2 21 = nI k := hD.2.2.1
  have ef : fX11_fresher 0 (8 : Int32) SM = some (nI k) := (M_fre hM (j := 8) (by decide)).trans (congrArg some ec)
  have ei : (8 : Int32) + nI k = nI (8 + k) := nI_add 8 k
  have hb : bnd (nI (8 + k)) 16 = true := bnd_nI (by omega) (by decide)
  have hcl : (nI (8 + k)).toNatClampNeg = 8 + k := nI_clamp (by omega)
  unfold doingX doingM fX11_line_436 fX11_line_447
  rw [ef, Option.bind_some, Option.bind_some, ei, hcl]
  obtain ⟨v, A1, B1, n1, n2, n3, s1⟩ := st_name (q := 3) hu (by decide) h hT hk hD.2.2.2 (by decide) (by decide)
  have n1' : fX5_takeName 48 (u + 9) SX = some A1 := n1
  have n2' : fX11_fresh 0 13 (8 : Int32) (nI k) SM = some (v, B1) := n2
  have s1' : ST t n bt u 3 k 1 SX SM A1 (pI B1 13 (8 + k) v) := s1
  have r1 := hr.st hu (by decide) s1'
  have m1 := s1'.1.mlM.1
  rw [n1', Option.bind_some, mr_14 hM, n2', Option.bind_some]
  dsimp only
  rw [lm_13, hb, if_pos rfl]
  obtain ⟨x2, A2, B2, p2, g2, w2, f2, s2⟩ := st_num (q := 3) (c := 1) (l := 0) (hh := 1) hu (by decide) s1' hk (by decide) (by decide) (by decide) (by decide) (by decide)
  have g2' : fX7_put (u + 9) (1 : Int32) (nI x2) A2 = some (pI A2 (u + 10) (k * 5 + 1) (nI x2)) := g2
  have s2' : ST t n bt u 3 k 2 SX SM (pI A2 (u + 10) (k * 5 + 1) (nI x2)) (pI B2 14 (8 + k) (nI x2)) := s2
  have p2' : fX5_number 48 (0 : Int32) (1 : Int32) A1 = some (nI x2, A2) := p2
  have w2' : fX11_numeral 0 (0 : Int32) (1 : Int32) (pI B1 13 (8 + k) v) = some (nI x2, B2) := w2
  rw [p2', Option.bind_some, w2', Option.bind_some]
  dsimp only
  rw [g2', Option.bind_some, mr_15 m1, lm_14, hb, if_pos rfl]
  have r2 := hr.st hu (by decide) s2'
  have m2 := s2'.1.mlM.1
  obtain ⟨x3, A3, B3, p3, g3, w3, f3, s3⟩ := st_num (q := 3) (c := 2) (l := 0) (hh := (r - 1)) hu (by decide) s2' hk (by decide) (by omega) (by have := r2.2.2.2; omega) (by decide) (show r - 1 ≤ 7 by have := r2.2.2.2; omega)
  have g3' : fX7_put (u + 9) (2 : Int32) (nI x3) A3 = some (pI A3 (u + 10) (k * 5 + 2) (nI x3)) := g3
  have s3' : ST t n bt u 3 k 3 SX SM (pI A3 (u + 10) (k * 5 + 2) (nI x3)) (pI B3 15 (8 + k) (nI x3)) := s3
  have p3' : fX5_number 48 (0 : Int32) (nI (r - 1)) (pI A2 (u + 10) (k * 5 + 1) (nI x2)) = some (nI x3, A3) := p3
  have w3' : fX11_numeral 0 (0 : Int32) (nI (r - 1)) (pI B2 14 (8 + k) (nI x2)) = some (nI x3, B3) := w3
  rw [r2.rx, p3', Option.bind_some, M_row m2 r2.2.2.1 r2.2.2.2.1, w3', Option.bind_some, Option.bind_some]
  dsimp only
  rw [g3', Option.bind_some, mr_16 m2, lm_15, hb, if_pos rfl]
  have r3 := hr.st hu (by decide) s3'
  have m3 := s3'.1.mlM.1
  obtain ⟨x4, A4, B4, p4, g4, w4, f4, s4⟩ := st_num (q := 3) (c := 3) (l := 0) (hh := (c - 1)) hu (by decide) s3' hk (by decide) (by omega) (by have := r3.2.2.2; omega) (by decide) (show c - 1 ≤ 7 by have := r3.2.2.2; omega)
  have g4' : fX7_put (u + 9) (3 : Int32) (nI x4) A4 = some (pI A4 (u + 10) (k * 5 + 3) (nI x4)) := g4
  have s4' : ST t n bt u 3 k 4 SX SM (pI A4 (u + 10) (k * 5 + 3) (nI x4)) (pI B4 16 (8 + k) (nI x4)) := s4
  have p4' : fX5_number 48 (0 : Int32) (nI (c - 1)) (pI A3 (u + 10) (k * 5 + 2) (nI x3)) = some (nI x4, A4) := p4
  have w4' : fX11_numeral 0 (0 : Int32) (nI (c - 1)) (pI B3 15 (8 + k) (nI x3)) = some (nI x4, B4) := w4
  rw [r3.cx, p4', Option.bind_some, M_col m3 r3.2.2.2.2.2.2.1 r3.2.2.2.2.2.2.2.1, w4', Option.bind_some, Option.bind_some]
  dsimp only
  rw [g4', Option.bind_some, mr_17 m3, lm_16, hb, if_pos rfl]
  have r4 := hr.st hu (by decide) s4'
  have m4 := s4'.1.mlM.1
  obtain ⟨x5, A5, B5, p5, g5, w5, f5, s5⟩ := st_num (q := 3) (c := 4) (l := 1) (hh := 99) hu (by decide) s4' hk (by decide) (by decide) (by decide) (by decide) (by decide)
  have g5' : fX7_put (u + 9) (4 : Int32) (nI x5) A5 = some (pI A5 (u + 10) (k * 5 + 4) (nI x5)) := g5
  have s5' : ST t n bt u 3 k 5 SX SM (pI A5 (u + 10) (k * 5 + 4) (nI x5)) (pI B5 17 (8 + k) (nI x5)) := s5
  have p5' : fX5_number 48 (1 : Int32) (99 : Int32) (pI A4 (u + 10) (k * 5 + 3) (nI x4)) = some (nI x5, A5) := p5
  have w5' : fX11_numeral 0 (1 : Int32) (99 : Int32) (pI B4 16 (8 + k) (nI x4)) = some (nI x5, B5) := w5
  rw [p5', Option.bind_some, w5', Option.bind_some]
  dsimp only
  rw [g5', Option.bind_some, mr_18 m4, lm_17, hb, if_pos rfl]
  have r5 := hr.st hu (by decide) s5'
  have m5 := s5'.1.mlM.1
  obtain ⟨c1, c2, _, _⟩ := st_close hu (by decide) s5' hD hk
  have c1' : fX7_close (u + 9) (pI A5 (u + 10) (k * 5 + 4) (nI x5)) = some (pI (pI A5 (u + 10) (k * 5 + 4) (nI x5)) (u + 9) 3 (nI (k + 1))) := c1
  have eg : fX11_fresher 0 (8 : Int32) (pI B5 17 (8 + k) (nI x5)) = some (nI k) := (M_fre m5 (j := 8) (by decide)).trans (congrArg some c2)
  have eh : fX11_reads 0 (8 : Int32) (nI k + 1) (pI B5 17 (8 + k) (nI x5)) = some (pI (pI B5 17 (8 + k) (nI x5)) 2 21 (nI k + 1)) := M_rea m5 (j := 8) (by decide)
  rw [c1', Option.bind_some, eg, Option.bind_some, eh, Option.bind_some, nI_1]
  exact ⟨_, _, rfl, rfl, st_fin hu (by decide) s5' hD hk⟩
theorem L_man {t n u k r c a e : Nat} {bt : Nat → Nat} {SX SM : MS} (hu : isT u) (h : JO t n bt a e SX SM) (hT : TBL SX (u + 11) 4 3 k) (hr : RC u r c SX SM) (hD : D2 u 4 SX SM k) (hk : k < 4) : ∃ SX1 SM1, manX (u + 11) SX = some SX1 ∧ manM SM = fX11_line_596 0 SM1 ∧ LC t n bt u 4 k SX SM SX1 SM1 := by
  have hM := h.2.1.1
  have ec : gI SM 2 22 = nI k := hD.2.2.1
  have ef : fX11_fresher 0 (9 : Int32) SM = some (nI k) := (M_fre hM (j := 9) (by decide)).trans (congrArg some ec)
  have ei : (4 : Int32) + nI k = nI (4 + k) := nI_add 4 k
  have hb : bnd (nI (4 + k)) 8 = true := bnd_nI (by omega) (by decide)
  have hcl : (nI (4 + k)).toNatClampNeg = 4 + k := nI_clamp (by omega)
  unfold manX manM fX11_line_532
  rw [ef, Option.bind_some, Option.bind_some, ei, hcl]
  obtain ⟨v, A1, B1, n1, n2, n3, s1⟩ := st_name (q := 4) hu (by decide) h hT hk hD.2.2.2 (by decide) (by decide)
  have n1' : fX5_takeName 48 (u + 11) SX = some A1 := n1
  have n2' : fX11_fresh 0 18 (4 : Int32) (nI k) SM = some (v, B1) := n2
  have s1' : ST t n bt u 4 k 1 SX SM A1 (pI B1 18 (4 + k) v) := s1
  have r1 := hr.st hu (by decide) s1'
  have m1 := s1'.1.mlM.1
  rw [n1', Option.bind_some, mr_19 hM, n2', Option.bind_some]
  dsimp only
  rw [lm_18, hb, if_pos rfl]
  obtain ⟨x2, A2, B2, p2, g2, w2, f2, s2⟩ := st_num (q := 4) (c := 1) (l := 0) (hh := (r - 1)) hu (by decide) s1' hk (by decide) (by omega) (by have := r1.2.2.2; omega) (by decide) (show r - 1 ≤ 7 by have := r1.2.2.2; omega)
  have g2' : fX7_put (u + 11) (1 : Int32) (nI x2) A2 = some (pI A2 (u + 12) (k * 3 + 1) (nI x2)) := g2
  have s2' : ST t n bt u 4 k 2 SX SM (pI A2 (u + 12) (k * 3 + 1) (nI x2)) (pI B2 19 (4 + k) (nI x2)) := s2
  have p2' : fX5_number 48 (0 : Int32) (nI (r - 1)) A1 = some (nI x2, A2) := p2
  have w2' : fX11_numeral 0 (0 : Int32) (nI (r - 1)) (pI B1 18 (4 + k) v) = some (nI x2, B2) := w2
  rw [r1.rx, p2', Option.bind_some, M_row m1 r1.2.2.1 r1.2.2.2.1, w2', Option.bind_some, Option.bind_some]
  dsimp only
  rw [g2', Option.bind_some, mr_20 m1, lm_19, hb, if_pos rfl]
  have r2 := hr.st hu (by decide) s2'
  have m2 := s2'.1.mlM.1
  obtain ⟨x3, A3, B3, p3, g3, w3, f3, s3⟩ := st_num (q := 4) (c := 2) (l := 0) (hh := (c - 1)) hu (by decide) s2' hk (by decide) (by omega) (by have := r2.2.2.2; omega) (by decide) (show c - 1 ≤ 7 by have := r2.2.2.2; omega)
  have g3' : fX7_put (u + 11) (2 : Int32) (nI x3) A3 = some (pI A3 (u + 12) (k * 3 + 2) (nI x3)) := g3
  have s3' : ST t n bt u 4 k 3 SX SM (pI A3 (u + 12) (k * 3 + 2) (nI x3)) (pI B3 20 (4 + k) (nI x3)) := s3
  have p3' : fX5_number 48 (0 : Int32) (nI (c - 1)) (pI A2 (u + 12) (k * 3 + 1) (nI x2)) = some (nI x3, A3) := p3
  have w3' : fX11_numeral 0 (0 : Int32) (nI (c - 1)) (pI B2 19 (4 + k) (nI x2)) = some (nI x3, B3) := w3
  rw [r2.cx, p3', Option.bind_some, M_col m2 r2.2.2.2.2.2.2.1 r2.2.2.2.2.2.2.2.1, w3', Option.bind_some, Option.bind_some]
  dsimp only
  rw [g3', Option.bind_some, mr_21 m2, lm_20, hb, if_pos rfl]
  have r3 := hr.st hu (by decide) s3'
  have m3 := s3'.1.mlM.1
  obtain ⟨c1, c2, _, _⟩ := st_close hu (by decide) s3' hD hk
  have c1' : fX7_close (u + 11) (pI A3 (u + 12) (k * 3 + 2) (nI x3)) = some (pI (pI A3 (u + 12) (k * 3 + 2) (nI x3)) (u + 11) 3 (nI (k + 1))) := c1
  have eg : fX11_fresher 0 (9 : Int32) (pI B3 20 (4 + k) (nI x3)) = some (nI k) := (M_fre m3 (j := 9) (by decide)).trans (congrArg some c2)
  have eh : fX11_reads 0 (9 : Int32) (nI k + 1) (pI B3 20 (4 + k) (nI x3)) = some (pI (pI B3 20 (4 + k) (nI x3)) 2 22 (nI k + 1)) := M_rea m3 (j := 9) (by decide)
  rw [c1', Option.bind_some, eg, Option.bind_some, eh, Option.bind_some, nI_1]
  exact ⟨_, _, rfl, rfl, st_fin hu (by decide) s3' hD hk⟩
