/-! ===== the line of a wall ===== -/
def D3 (u : Nat) (SX SM : MS) (nw : Nat) : Prop := nw ≤ 8 ∧ gI SX u 12 = nI nw ∧ gI SM 2 17 = nI nw ∧ ∀ c, c < 64 → (gI SX (u + 1) c ≠ 0 ↔ ∃ k, k < nw ∧ gI SM 3 (8 + k) = nI c)
def HR (u hr hc : Nat) (SX SM : MS) : Prop := gI SX u 10 = nI hr ∧ gI SM 2 15 = nI hr ∧ hr < 8 ∧ gI SX u 11 = nI hc ∧ gI SM 2 16 = nI hc ∧ hc < 8
def WFX (u o j : Nat) : Prop := NY o j ∨ o = u + 1 ∨ (o = u ∧ j = 12)
def WFM (o j : Nat) : Prop := NN o j ∨ (o = 3 ∧ 8 ≤ j) ∨ (o = 2 ∧ j = 17)
theorem w93 {x z c nw : Nat} {S B : MS} (hM : MR S) (hc : gI S 2 14 = nI c) (c1 : 1 ≤ c) (hw : gI S 2 17 = nI nw) (hk : nw < 8) (f : Fr NN S B) (hn : fX11_numeral 0 0 (nI (c - 1)) S = some (nI z, B)) : fX11_wallLine_93 0 (nI x) S = some (pI (pI B 3 (8 + nw) (nI (8 * x + z))) 2 17 (nI (nw + 1))) := by
  have hB : MR B := hM.of f.1
  have hB1 : MR (pI B 3 (8 + nw) (nI (8 * x + z))) := hB.of rfl
  have ef : fX11_fresher 0 (4 : Int32) S = some (nI nw) := (M_fre hM (j := 4) (by decide)).trans (congrArg some hw)
  have eB : gI (pI B 3 (8 + nw) (nI (8 * x + z))) 2 17 = nI nw := by rw [gI_neo (by decide), f.2 _ _ (fun hp => by unfold NN at hp; omega)]; exact hw
  have eg : fX11_fresher 0 (4 : Int32) (pI B 3 (8 + nw) (nI (8 * x + z))) = some (nI nw) := (M_fre hB1 (j := 4) (by decide)).trans (congrArg some eB)
  have eh : fX11_reads 0 (4 : Int32) (nI nw + 1) (pI B 3 (8 + nw) (nI (8 * x + z))) = some (pI (pI B 3 (8 + nw) (nI (8 * x + z))) 2 17 (nI nw + 1)) := M_rea hB1 (j := 4) (by decide)
  unfold fX11_wallLine_93
  rw [ef, Option.bind_some, M_col hM hc c1, hn, Option.bind_some, Option.bind_some]
  dsimp only
  rw [mr_4 hM, lm_3, show (8 : Int32) + nI nw = nI (8 + nw) from nI_add 8 nw, bnd_nI (show 8 + nw < 16 by omega) (by decide), if_pos rfl, nI_clamp (by omega), show (8 : Int32) * nI x + nI z = nI (8 * x + z) by rw [show (8 : Int32) = nI 8 from rfl, nI_mul, nI_add], eg, Option.bind_some, eh, Option.bind_some, nI_1]
theorem x_cell {u x y r c : Nat} {S : MS} (h8 : gI S u 8 = nI r) (h9 : gI S u 9 = nI c) (hx : x < r) (hy : y < c) (r8 : r ≤ 8) (c8 : c ≤ 8) : fX8_isCell u (nI x) (nI y) S = some 1 := by
  unfold fX8_isCell
  rw [h8, h9, if_neg (nI_pos (by omega)), if_neg (nle (by omega) hx), if_neg (nI_pos (by omega)), if_neg (nle (by omega) hy)]
theorem x94 {t u x y r c : Nat} {S : MS} (hu : isT u) (hR : RX t S) (h9' : gR S 48 9 = u) (h8 : gI S u 8 = nI r) (h9 : gI S u 9 = nI c) (hx : x < r) (hy : y < c) (r8 : r ≤ 8) (c8 : c ≤ 8) : fX5_readWall_94 48 (nI x) (nI y) S = some (pI (pI S (u + 1) (x * 8 + y) 1) u 12 (gI S u 12 + 1)) := by
  unfold fX5_readWall_94 fX8_setWall
  rw [h9', x_cell h8 h9 hx hy r8 c8, Option.bind_some, if_neg (by decide), rt_0 hR hu, lt_1 hu, show nI x * 8 + nI y = nI (x * 8 + y) from idx_nI, bnd_nI (by omega) (by decide), if_pos rfl, nI_clamp (by omega), Option.bind_some, gI_neo (show u ≠ u + 1 by omega)]
  rfl
theorem x_wall {t u x y r c : Nat} {S : MS} (hu : isT u) (hR : RX t S) (h8 : gI S u 8 = nI r) (h9 : gI S u 9 = nI c) (hx : x < r) (hy : y < c) (r8 : r ≤ 8) (c8 : c ≤ 8) : fX8_isWall u (nI x) (nI y) S = some (if gI S (u + 1) (x * 8 + y) = 0 then 0 else 1) := by
  unfold fX8_isWall
  rw [x_cell h8 h9 hx hy r8 c8, Option.bind_some, if_neg (by decide), rt_0 hR hu, lt_1 hu, show nI x * 8 + nI y = nI (x * 8 + y) from idx_nI, bnd_nI (by omega) (by decide), if_pos rfl, nI_clamp (by omega)]
  split <;> rfl
theorem L_wall {t n u r c nw hr hc a e : Nat} {bt : Nat → Nat} {SX SM : MS} (hu : isT u) (h : JO t n bt a e SX SM) (hrc : RC u r c SX SM) (hD : D3 u SX SM nw) (hk : nw < 8) (hH : HR u hr hc SX SM) :
    ∃ SX1 SM1, wallX SX = some SX1 ∧ fX11_wallLine 0 SM = some SM1 ∧ JJ t n bt SX1 SM1 ∧ Fr (WFX u) SX SX1 ∧ Fr WFM SM SM1 ∧ (gI SX1 48 16 = 0 → D3 u SX1 SM1 (nw + 1)) := by
  have hu' := hu
  unfold isT at hu'
  have hM := h.2.1.1
  have rr := hrc.2.2.2
  obtain ⟨x, A1, B1, p1, w1, _, xr, j1, fx1, fm1, b1⟩ := j_num (l := 0) (m := r - 1) (Or.inl ⟨a, e, h⟩) (by omega) (by omega)
  have rc1 : RC u r c A1 B1 := hrc.fr fx1 fm1 (fun hp => by unfold NY at hp; omega) (fun hp => by unfold NY at hp; omega) (fun hp => by unfold NN at hp; omega) (fun hp => by unfold NN at hp; omega)
  obtain ⟨y, A2, B2, p2, w2, _, yc', j2, fx2, fm2, b2⟩ := j_num (l := 0) (m := c - 1) j1 (by omega) (by omega)
  have rc2 : RC u r c A2 B2 := rc1.fr fx2 fm2 (fun hp => by unfold NY at hp; omega) (fun hp => by unfold NY at hp; omega) (fun hp => by unfold NN at hp; omega) (fun hp => by unfold NN at hp; omega)
  have p1' : fX5_number 48 (0 : Int32) (nI (r - 1)) SX = some (nI x, A1) := p1
  have p2' : fX5_number 48 (0 : Int32) (nI (c - 1)) A1 = some (nI y, A2) := p2
  have w1' : fX11_numeral 0 (0 : Int32) (nI (r - 1)) SM = some (nI x, B1) := w1
  have w2' : fX11_numeral 0 (0 : Int32) (nI (c - 1)) B1 = some (nI y, B2) := w2
  have hB1 := j1.mlM.1
  have nw1 : gI B1 2 17 = nI nw := by rw [fm1.2 _ _ (fun hp => by unfold NN at hp; omega)]; exact hD.2.2.1
  have hx : x < r := by omega
  have hy : y < c := by omega
  have fX2 := fx1.tr fx2
  have cell2 : ∀ j, j ≠ 0 → gI A2 u j = gI SX u j := fun j _ => fX2.2 _ _ (fun hp => by unfold NY at hp; omega)
  have nwx : gI A2 u 12 = nI nw := (cell2 12 (by decide)).trans hD.2.1
  have wx2 : ∀ j, gI A2 (u + 1) j = gI SX (u + 1) j := fun j => fX2.2 _ _ (fun hp => by unfold NY at hp; omega)
  -- how the class ends
  have endX : ∀ S : MS, Fr NY SX S → XL t n bt S → fX5_readWall_94 48 (nI x) (nI y) S = some (pI (pI S (u + 1) (x * 8 + y) 1) u 12 (nI (nw + 1))) := fun S f l => by
    have e12 : gI S u 12 = nI nw := (f.2 _ _ (fun hp => by unfold NY at hp; omega)).trans hD.2.1
    rw [x94 hu l.1 (by rw [f.ref]; exact hrc.1) ((f.2 _ _ (fun hp => by unfold NY at hp; omega)).trans hrc.2.1) ((f.2 _ _ (fun hp => by unfold NY at hp; omega)).trans hrc.2.2.2.2.2.1) hx hy rr.2.1 rr.2.2.2.2.2, e12, nI_1]
  have pdw : PD u (u + 1) (x * 8 + y) := Or.inr (Or.inr (Or.inr (Or.inl rfl)))
  have pd12 : PD u u 12 := PDu (by decide)
  have fwX : ∀ S : MS, Fr NY SX S → Fr (WFX u) SX (pI (pI S (u + 1) (x * 8 + y) 1) u 12 (nI (nw + 1))) := fun S f => by
    have g : Fr (WFX u) SX S := f.mo (fun _ _ hp => Or.inl hp)
    exact (g.pI (Or.inr (Or.inl rfl))).pI (Or.inr (Or.inr ⟨rfl, rfl⟩))
  have fwM : ∀ (S : MS) (v : Int32), Fr NN SM S → Fr WFM SM (pI (pI S 3 (8 + nw) v) 2 17 (nI (nw + 1))) := fun S v f => by
    have g : Fr WFM SM S := f.mo (fun _ _ hp => Or.inl hp)
    exact (g.pI (Or.inr (Or.inl ⟨rfl, by omega⟩))).pI (Or.inr (Or.inr ⟨rfl, rfl⟩))
  have jw : ∀ (S R : MS) (v : Int32), JJ t n bt S R → JJ t n bt (pI (pI S (u + 1) (x * 8 + y) 1) u 12 (nI (nw + 1))) (pI (pI R 3 (8 + nw) v) 2 17 (nI (nw + 1))) := fun S R v j => (((j.pX hu pdw (fun e => by omega)).pX hu pd12 (fun e => by omega)).pM (by decide) (fun e => by omega)).pM (by decide) (fun e => by omega)
  have z16 : ∀ (S : MS) (v : Int32), gI (pI (pI S (u + 1) (x * 8 + y) 1) u 12 v) 48 16 = gI S 48 16 := fun S v => by rw [gI_neo (by omega), gI_neo (by omega)]
  -- the class fails, or fails again
  have failX : ∀ {f w : Int32}, XF t n bt f w A2 → ∃ A3, (fX5_readWall_85 48 (nI x) (nI y) A2 = some (pI (pI A3 (u + 1) (x * 8 + y) 1) u 12 (nI (nw + 1)))) ∧ XF t n bt f w A3 ∧ Fr NY SX A3 := fun {f w} g => by
    obtain ⟨A3, c1, c2, c3⟩ := X_fail_f (g := 5) (v := gI A2 48 8) g
    refine ⟨A3, ?_, c2, fX2.tr c3⟩
    unfold fX5_readWall_85
    rw [c1, Option.bind_some, endX A3 (fX2.tr c3) c2.1]
  have anyX : ∀ {f w : Int32}, XF t n bt f w A2 → ∃ A3, wallX SX = some (pI (pI A3 (u + 1) (x * 8 + y) 1) u 12 (nI (nw + 1))) ∧ XF t n bt f w A3 ∧ Fr NY SX A3 := fun {f w} g => by
    unfold wallX
    rw [hrc.rx, p1', Option.bind_some]
    dsimp only
    rw [rc1.cx, p2', Option.bind_some]
    dsimp only
    rw [rc2.1, x_wall hu j2.xl.1 rc2.2.1 rc2.2.2.2.2.2.1 hx hy rr.2.1 rr.2.2.2.2.2, Option.bind_some]
    have g94 := endX A2 fX2 g.1
    obtain ⟨A3, k1, k2, k3⟩ := failX g
    by_cases d : gI A2 (u + 1) (x * 8 + y) = 0
    · rw [if_pos d, if_pos rfl]
      by_cases d1 : nI x = gI A2 u 10
      · rw [if_pos d1]
        by_cases d2 : nI y = gI A2 u 11
        · rw [if_pos d2]; exact ⟨A3, k1, k2, k3⟩
        · rw [if_neg d2]; exact ⟨A2, g94, g, fX2⟩
      · rw [if_neg d1]; exact ⟨A2, g94, g, fX2⟩
    · rw [if_neg d, if_neg (by decide)]; exact ⟨A3, k1, k2, k3⟩
  unfold fX11_wallLine
  rw [M_row hM hrc.2.2.1 rr.1, w1', Option.bind_some, Option.bind_some]
  dsimp only
  have e93 : fX11_wallLine_93 0 (nI x) B1 = some (pI (pI B2 3 (8 + nw) (nI (8 * x + y))) 2 17 (nI (nw + 1))) := w93 hB1 rc1.2.2.2.2.2.2.1 rr.2.2.2.2.1 nw1 hk fm2 w2'
  by_cases z2 : gI A2 48 16 = 0
  · obtain ⟨⟨a1, e1, g1⟩, t8, s2, v2⟩ := b2 (j2.ok z2)
    obtain ⟨a2, e2, g2⟩ := j2.ok z2
    have f1 : fX11_fresher 0 (1 : Int32) B1 = some (nI c) := (M_fre hB1 (j := 1) (by decide)).trans (congrArg some rc1.2.2.2.2.2.2.1)
    have e15 : gI B1 2 15 = nI hr := by rw [fm1.2 _ _ (fun hp => by unfold NN at hp; omega)]; exact hH.2.1
    have e16 : gI B1 2 16 = nI hc := by rw [fm1.2 _ _ (fun hp => by unfold NN at hp; omega)]; exact hH.2.2.2.2.1
    have f2 : fX11_fresher 0 (2 : Int32) B1 = some (nI hr) := (M_fre hB1 (j := 2) (by decide)).trans (congrArg some e15)
    have f3 : fX11_fresher 0 (3 : Int32) B1 = some (nI hc) := (M_fre hB1 (j := 3) (by decide)).trans (congrArg some e16)
    have f4 : fX11_fresher 0 (4 : Int32) B1 = some (nI nw) := (M_fre hB1 (j := 4) (by decide)).trans (congrArg some nw1)
    have e10 : gI A2 u 10 = nI hr := (cell2 10 (by decide)).trans hH.1
    have e11 : gI A2 u 11 = nI hc := (cell2 11 (by decide)).trans hH.2.2.2.1
    have fo : fX11_found 3 (8 : Int32) (nI nw) (nI (8 * x + y)) B1 = some _ := M_found (S := B1) (o := 3) (a := 8) (n := nw) (v := nI (8 * x + y)) (by rw [lm_3]; omega) (by rw [lm_3]; decide)
    have fw : fnd (fun k => gI B1 3 (8 + k)) (nI (8 * x + y)) nw 0 = -1 ↔ gI A2 (u + 1) (x * 8 + y) = 0 := by
      rw [fnd_none nw 0 (by omega), wx2]
      have hw := hD.2.2.2 (x * 8 + y) (by omega)
      constructor
      · intro g
        by_cases q : gI SX (u + 1) (x * 8 + y) = 0
        · exact q
        · obtain ⟨k, k1, k2⟩ := hw.mp q
          have := g k (by omega) (by omega)
          rw [fm1.2 _ _ (fun hp => by unfold NN at hp; omega), k2, show x * 8 + y = 8 * x + y by omega] at this
          exact absurd rfl this
      · intro q k _ k1 k2
        rw [fm1.2 _ _ (fun hp => by unfold NN at hp; omega), show 8 * x + y = x * 8 + y by omega] at k2
        exact hw.mpr ⟨k, by omega, k2⟩ q
    have i8 : (8 : Int32) * nI x + nI y = nI (8 * x + y) := by rw [show (8 : Int32) = nI 8 from rfl, nI_mul, nI_add]
    -- both fail
    have bad : ∃ A3 B3, fX5_readWall_85 48 (nI x) (nI y) A2 = some (pI (pI A3 (u + 1) (x * 8 + y) 1) u 12 (nI (nw + 1))) ∧ (fX11_wrong 0 5 B1).bind (fun q32 => fX11_wallLine_93 0 (nI x) q32) = some (pI (pI B3 3 (8 + nw) (nI (8 * x + 0))) 2 17 (nI (nw + 1))) ∧ JF t n bt A3 B3 ∧ Fr NY SX A3 ∧ Fr NN SM B3 := by
      obtain ⟨A3, c1, c2, c3⟩ := X_fail (f := 5) (w := gI A2 48 8) g2.1 z2 (by decide)
      obtain ⟨B3, d1, d2, d3, d4, d5, _⟩ := M_wrong (f := 5) g1.2.1 g1.2.2.2.1
      have z34 : gI B3 0 34 ≠ 0 := by rw [d3]; decide
      refine ⟨A3, B3, ?_, ?_, ⟨5, _, c2, d2, d3, ?_⟩, fX2.tr c3, fm1.tr d5⟩
      · unfold fX5_readWall_85
        rw [c1, Option.bind_some, endX A3 (fX2.tr c3) c2.1]
      · rw [d1, Option.bind_some, w93 (z := 0) d2.1 ((d5.2 _ _ (fun hp => by unfold NN at hp; omega)).trans rc1.2.2.2.2.2.2.1) rr.2.2.2.2.1 ((d5.2 _ _ (fun hp => by unfold NN at hp; omega)).trans nw1) hk Fr.rf (M_num_f z34)]
      · rw [d4, t8, g1.2.2.2.2.2.1, g1.2.2.2.2.1]
    obtain ⟨A3, B3, k1, k2, k3, k4, k5⟩ := bad
    have badend : ∃ SX1 SM1, fX5_readWall_85 48 (nI x) (nI y) A2 = some SX1 ∧ (fX11_wrong 0 5 B1).bind (fun q32 => fX11_wallLine_93 0 (nI x) q32) = some SM1 ∧ JJ t n bt SX1 SM1 ∧ Fr (WFX u) SX SX1 ∧ Fr WFM SM SM1 ∧ (gI SX1 48 16 = 0 → D3 u SX1 SM1 (nw + 1)) := by
      refine ⟨_, _, k1, k2, jw _ _ _ (Or.inr k3), fwX _ k4, fwM _ _ k5, fun hz => ?_⟩
      rw [z16] at hz
      obtain ⟨ff, ww, q1, _⟩ := k3
      exact absurd (q1.2.1.symm.trans hz) q1.2.2.1
    unfold wallX fX11_wallLine_61
    rw [hrc.rx, p1', Option.bind_some]
    dsimp only
    rw [rc1.cx, p2', Option.bind_some]
    dsimp only
    rw [rc2.1, x_wall hu j2.xl.1 rc2.2.1 rc2.2.2.2.2.2.1 hx hy rr.2.1 rr.2.2.2.2.2, Option.bind_some, if_pos g1.2.2.2.1, if_pos s2, f1, Option.bind_some, v2, if_neg (nle (by omega) hy), f2, Option.bind_some, e10, e11, f3, Option.bind_some, f4, Option.bind_some, mr_4 hB1, i8, fo, Option.bind_some]
    by_cases d : gI A2 (u + 1) (x * 8 + y) = 0
    · rw [if_pos d, if_pos rfl, if_pos (fw.mpr d)]
      have good : ∃ SX1 SM1, fX5_readWall_94 48 (nI x) (nI y) A2 = some SX1 ∧ fX11_wallLine_93 0 (nI x) B1 = some SM1 ∧ JJ t n bt SX1 SM1 ∧ Fr (WFX u) SX SX1 ∧ Fr WFM SM SM1 ∧ (gI SX1 48 16 = 0 → D3 u SX1 SM1 (nw + 1)) := by
        refine ⟨_, _, endX A2 fX2 g2.1, e93, jw _ _ _ j2, fwX _ fX2, fwM _ _ (fm1.tr fm2), fun _ => ⟨by omega, gI_same, gI_same, fun c' hc' => ?_⟩⟩
        have fm12 := fm1.tr fm2
        rw [gI_neo (show u + 1 ≠ u by omega)]
        have mk : ∀ k, k ≠ nw → gI (pI (pI B2 3 (8 + nw) (nI (8 * x + y))) 2 17 (nI (nw + 1))) 3 (8 + k) = gI SM 3 (8 + k) := fun k hk' => by
          rw [gI_neo (by decide), gI_nek (by omega), fm12.2 _ _ (fun hp => by unfold NN at hp; omega)]
        have mn : gI (pI (pI B2 3 (8 + nw) (nI (8 * x + y))) 2 17 (nI (nw + 1))) 3 (8 + nw) = nI (8 * x + y) := by rw [gI_neo (by decide), gI_same]
        by_cases q : c' = x * 8 + y
        · subst q
          rw [gI_same]
          exact ⟨fun _ => ⟨nw, by omega, by rw [mn, show 8 * x + y = x * 8 + y by omega]⟩, fun _ => by decide⟩
        · rw [gI_nek q, wx2, hD.2.2.2 c' hc']
          constructor
          · rintro ⟨k, q1, q2⟩; exact ⟨k, by omega, by rw [mk k (by omega)]; exact q2⟩
          · rintro ⟨k, q1, q2⟩
            by_cases q3 : k = nw
            · subst q3; rw [mn] at q2
              have := (nI_eq (show 8 * x + y < 2 ^ 31 by omega) (show c' < 2 ^ 31 by omega)).mp q2
              omega
            · exact ⟨k, by omega, by rw [mk k q3] at q2; exact q2⟩
      by_cases d1 : nI x = nI hr
      · rw [if_pos d1, if_pos d1]
        by_cases d2 : nI y = nI hc
        · rw [if_pos d2, if_pos d2]; exact badend
        · rw [if_neg d2, if_neg d2]; exact good
      · rw [if_neg d1, if_neg d1]; exact good
    · rw [if_neg d, if_neg (show ¬ (1 : Int32) = 0 by decide), if_neg (fun q => d (fw.mp q))]
      by_cases d1 : nI x = nI hr
      · rw [if_pos d1]
        by_cases d2 : nI y = nI hc
        · rw [if_pos d2]; exact badend
        · rw [if_neg d2]; exact badend
      · rw [if_neg d1]; exact badend
  · obtain ⟨ff, ww, q1, q2, q3, q4⟩ : JF t n bt A2 B2 := by
      rcases j2 with ⟨_, _, g⟩ | g
      · exact absurd g.2.2.1 z2
      · exact g
    obtain ⟨A3, k1, k2, k3⟩ := anyX q1
    have fin : ∃ SX1 SM1, wallX SX = some SX1 ∧ fX11_wallLine_93 0 (nI x) B1 = some SM1 ∧ JJ t n bt SX1 SM1 ∧ Fr (WFX u) SX SX1 ∧ Fr WFM SM SM1 ∧ (gI SX1 48 16 = 0 → D3 u SX1 SM1 (nw + 1)) := by
      refine ⟨_, _, k1, e93, jw _ _ _ (Or.inr ⟨ff, ww, k2, q2, q3, q4⟩), fwX _ k3, fwM _ _ (fm1.tr fm2), fun hz => ?_⟩
      rw [z16] at hz
      exact absurd (k2.2.1.symm.trans hz) k2.2.2.1
    by_cases z1 : gI B1 0 34 = 0
    · rw [if_pos z1]
      by_cases s2 : gI B1 0 32 = 2
      · rw [if_pos s2]
        have f1 : fX11_fresher 0 (1 : Int32) B1 = some (nI c) := (M_fre hB1 (j := 1) (by decide)).trans (congrArg some rc1.2.2.2.2.2.2.1)
        rw [f1, Option.bind_some]
        by_cases s3 : nI c ≤ gI B1 0 33
        · rw [if_pos s3]; exact fin
        · refine absurd ?_ z2
          obtain ⟨a1, e1, g1⟩ : ∃ a e, JO t n bt a e A1 B1 := by
            rcases j1 with g | ⟨f, w, g1, g2, g3, g4⟩
            · exact g
            · exact absurd (g3.symm.trans z1) g1.2.2.1
          obtain ⟨y', hy'⟩ : ∃ y', gI B1 0 33 = nI y' ∧ y' < 2 ^ 31 := by
            have tk := g1.2.2.2.2.2.2.2.2.2.2
            rcases tk with ⟨_, q⟩ | ⟨_, q⟩ | ⟨_, q, _⟩ | ⟨_, _, x, y, q1, q2, q3⟩ | ⟨q, _⟩ | ⟨q, _⟩
            · rw [s2] at q; exact absurd q (by decide)
            · rw [s2] at q; exact absurd q (by decide)
            · rw [s2] at q; exact absurd q (by decide)
            · exact ⟨y, q2, by rcases q3 with q | q <;> omega⟩
            · rw [s2] at q; exact absurd q (by decide)
            · rw [s2] at q; exact absurd q (by decide)
          rw [hy'.1] at s3
          have yc : ¬ c ≤ y' := fun g => s3 ((nI_leI (show c < 2 ^ 31 by omega) hy'.2).mpr g)
          exact num_in (m := c - 1) g1 s2 hy'.1 (by omega) (by omega) p2
      · rw [if_neg s2]; exact fin
    · rw [if_neg z1]; exact fin
