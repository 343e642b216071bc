/-! ===== the other lines, taken or not ===== -/
theorem CFR_PD {u : Nat} : ∀ o j, CFR u o j → PD u o j := fun o j h => by
  rcases h with h | ⟨rfl, h⟩
  · exact NY_PD o j h
  · exact PDu (by omega)
theorem line_r0 {t n u a e r c hr hc nw cl sd kn ln : Nat} {bt kq zl : Nat → Nat} {SX SM : MS} (h : JO t n bt a e SX SM) (h0 : bt 1000 = 0) (hu : isT u) (hb : BD u SX SM r c hr hc nw kq cl sd kn zl ln) (hx : hr < r ∧ hc < c ∧ (ln = 0 → hr = 0 ∧ hc = 0)) (hl : ln ≤ 700) (hk : gI SX 48 5 = 20) : ∃ SX1 SM1, fX5_readLine 48 SX = some SX1 ∧ fX11_line 0 SM = some SM1 ∧ LNo t n bt u e (ln + 1) SX SM SX1 SM1 := by
  have l1 := hb.1.2.2.2.2.2.2.2.2.2.1
  have l2 := hb.1.2.2.2.2.2.2.2.2.2.2
  by_cases cf : ln = 0
  · obtain ⟨q1, q2⟩ := (h.2.2.2.2.2.2.2.2.2.2.wrd (j := 0) (by decide)).mp hk
    obtain ⟨A, B, a1, e1, c1, c2, c3, c4, c5, c6, c7⟩ := j_word (u := u) (w := 0) h (by decide)
    have b1 := hb.1.wd hu c4 c5
    have hu' := hu
    unfold isT at hu'
    obtain ⟨C, D, r1, s1, d1, d2, d3, d4, d5, d6⟩ := L_room hu c3 b1.1.1
    have eX : fX5_readLine 48 SX = fX5_readLine_150 48 C := by rw [X_line_0 hk, X_take_0 (by rw [l1, cf]; decide), c1, Option.bind_some, d1, Option.bind_some]
    have eM : fX11_line 0 SM = fX11_line_596 0 D := by rw [M_line_go h.2.1.1 q1 q2 (by decide) (fun _ => by rw [l2, cf]; decide) (fun q => absurd q (by decide)), M_42_free q1 q2 (Or.inl rfl), M_114_0 h.2.2.2.1, c2, Option.bind_some, d2]
    rw [eX, eM]
    have b27 : gI D 0 27 = _ := (d5.2 0 27 (fun hp => by unfold CFM NN at hp; omega)).trans c7
    exact line_fin h0 hu d3 ((QFX.of c4 NX_PD).tr (QFX.of d4 CFR_PD)) ((c5.mo NM_Q).tr (d5.mo (CFM_Q (by decide)))) ((d4.2 _ _ (fun hp => by unfold CFR NY at hp; omega)).trans b1.2.2.2.2.2.2.2.2.2.1) ((d5.2 _ _ (fun hp => by unfold CFM NN at hp; omega)).trans b1.2.2.2.2.2.2.2.2.2.2) (fun z => ⟨r1, s1, hr, hc, nw, kq, cl, sd, kn, zl, b1.rm hu d4 d5 d6, hb.2.kp (w := 0) (by decide) (by decide) b27 (fun j h1 h2 => by rw [d4.2 _ _ (fun hp => by unfold CFR NY at hp; omega), c4.2 _ _ (fun hp => by unfold NX at hp; omega)]), by have := (hx.2.2 cf).1; have := d6.2.2.2.1; omega, by have := (hx.2.2 cf).2; have := d6.2.2.2.2.2.2.2.1; omega⟩)
  · refine line_bad (line_late0 h hu hb.xd hk ?_ ?_)
    · rw [l1]; exact fun q => absurd ((nI_leI (show ln < 2 ^ 31 by omega) (show (0 : Nat) < 2 ^ 31 by decide)).mp q) (by omega)
    · rw [l2]; exact (nI_ltI (show (0 : Nat) < 2 ^ 31 by decide) (show ln < 2 ^ 31 by omega)).mpr (by omega)
theorem line_h1 {t n u a e r c hr hc nw cl sd kn ln : Nat} {bt kq zl : Nat → Nat} {SX SM : MS} (h : JO t n bt a e SX SM) (h0 : bt 1000 = 0) (hu : isT u) (hb : BD u SX SM r c hr hc nw kq cl sd kn zl ln) (hx : hr < r ∧ hc < c ∧ (ln = 0 → hr = 0 ∧ hc = 0)) (hk : gI SX 48 5 = 21) : ∃ SX1 SM1, fX5_readLine 48 SX = some SX1 ∧ fX11_line 0 SM = some SM1 ∧ LNo t n bt u e (ln + 1) SX SM SX1 SM1 := by
  have w1 := hb.1.2.2.1.2.1
  have w2 := hb.1.2.2.1.2.2.1
  have w8 := hb.1.2.2.1.1
  by_cases cw : nw = 0
  · have x0 : gI SX u 12 ≤ 0 := by rw [w1, cw]; decide
    have m0 : gI SM 2 17 ≤ 0 := by rw [w2, cw]; decide
    by_cases ct : gI SX 48 13 = 0
    · have nt := hb.2.2.1.mp ct
      obtain ⟨q1, q2⟩ := (h.2.2.2.2.2.2.2.2.2.2.wrd (j := 1) (by decide)).mp hk
      obtain ⟨A, B, a1, e1, c1, c2, c3, c4, c5, c6, c7⟩ := j_word (u := u) (w := 1) h (by decide)
      have b1 := hb.1.wd hu c4 c5
      have hu' := hu
      unfold isT at hu'
      obtain ⟨C, D, r1, s1, d1, d2, d3, d4, d5, d6, d7, d8, d9, d10, d11⟩ := L_her hu c3 b1.1
      have eX : fX5_readLine 48 SX = fX5_readLine_150 48 C := by rw [X_line_1 hk, X_take_1 hb.1.1.1 x0 ct, c1, Option.bind_some, d1, Option.bind_some]
      have eM : fX11_line 0 SM = fX11_line_596 0 D := by rw [M_line_go h.2.1.1 q1 q2 (by decide) (fun q => absurd q (by decide)) (fun _ => m0), (M_42_once q1 q2 (by decide)).2 nt, M_114_1 h.2.2.2.1, c2, Option.bind_some, d2]
      rw [eX, eM]
      have b27 : gI D 0 27 = _ := (d5.2 0 27 (fun hp => by unfold CFM NN at hp; omega)).trans c7
      exact line_fin h0 hu d3 ((QFX.of c4 NX_PD).tr (QFX.of d4 (CFX_PD (by decide)))) ((c5.mo NM_Q).tr (d5.mo (CFM_Q (by decide)))) ((d4.2 _ _ (fun hp => by unfold CFX NY at hp; omega)).trans b1.2.2.2.2.2.2.2.2.2.1) ((d5.2 _ _ (fun hp => by unfold CFM NN at hp; omega)).trans b1.2.2.2.2.2.2.2.2.2.2) (fun z => ⟨r, c, r1, s1, nw, kq, cl, sd, kn, zl, b1.he hu d4 d5 d6, hb.2.on (w := 1) (fl := 13) (by decide) b27 d7 (fun j h1 h2 h3 => by
        rcases (by omega : j = 14 ∨ j = 15) with rfl | rfl
        · rw [d8, c4.2 _ _ (fun hp => by unfold NX at hp; omega)]
        · rw [d9, c4.2 _ _ (fun hp => by unfold NX at hp; omega)]), d10, d11⟩)
    · refine line_bad (line_told1 h hu hb.xd hk ct ?_ x0 m0)
      exact Classical.byContradiction (fun q => ct (hb.2.2.1.mpr q))
  · refine line_bad (line_late1 h hu hb.xd hk ?_ ?_)
    · rw [w1]; exact fun q => absurd ((nI_leI (show nw < 2 ^ 31 by omega) (show (0 : Nat) < 2 ^ 31 by decide)).mp q) (by omega)
    · rw [w2]; exact fun q => absurd ((nI_leI (show nw < 2 ^ 31 by omega) (show (0 : Nat) < 2 ^ 31 by decide)).mp q) (by omega)
theorem line_w2 {t n u a e r c hr hc nw cl sd kn ln : Nat} {bt kq zl : Nat → Nat} {SX SM : MS} (h : JO t n bt a e SX SM) (h0 : bt 1000 = 0) (hu : isT u) (hb : BD u SX SM r c hr hc nw kq cl sd kn zl ln) (hx : hr < r ∧ hc < c ∧ (ln = 0 → hr = 0 ∧ hc = 0)) (hk : gI SX 48 5 = 22) : ∃ SX1 SM1, fX5_readLine 48 SX = some SX1 ∧ fX11_line 0 SM = some SM1 ∧ LNo t n bt u e (ln + 1) SX SM SX1 SM1 := by
  have w1 := hb.1.2.2.1.2.1
  have w2 := hb.1.2.2.1.2.2.1
  have w8 := hb.1.2.2.1.1
  by_cases cf : nw = 8
  · exact line_bad (line_full2 h hu hb.xd hk (by rw [w1, cf]) (by rw [w2, cf]))
  · have hlt : nw < 8 := by omega
    obtain ⟨q1, q2⟩ := (h.2.2.2.2.2.2.2.2.2.2.wrd (j := 2) (by decide)).mp hk
    obtain ⟨A, B, a1, e1, c1, c2, c3, c4, c5, c6, c7⟩ := j_word (u := u) (w := 2) h (by decide)
    have b1 := hb.1.wd hu c4 c5
    have hu' := hu
    unfold isT at hu'
    obtain ⟨C, D, d1, d2, d3, d4, d5, d6⟩ := L_wall hu c3 b1.1 b1.2.2.1 hlt b1.2.1
    have eX : fX5_readLine 48 SX = fX5_readLine_150 48 C := by rw [X_line_2 hk, X_take_2 hb.1.1.1 w1 hlt, c1, Option.bind_some, d1, Option.bind_some]
    have eM : fX11_line 0 SM = fX11_line_596 0 D := by rw [M_line_go h.2.1.1 q1 q2 (by decide) (fun q => absurd q (by decide)) (fun q => absurd q (by decide)), M_42_table h.2.1.1 q1 q2 (by decide) (by decide) w2 (by omega), if_neg (show ¬ nw = fullM 2 from cf), M_114_2 h.2.2.2.1, c2, Option.bind_some, d2, Option.bind_some]
    rw [eX, eM]
    have b27 : gI D 0 27 = _ := (d5.2 0 27 (fun hp => by unfold WFM NN at hp; omega)).trans c7
    exact line_fin h0 hu d3 ((QFX.of c4 NX_PD).tr (QFX.of d4 WFX_PD)) ((c5.mo NM_Q).tr (d5.mo WFM_Q)) ((d4.2 _ _ (fun hp => by unfold WFX NY at hp; omega)).trans b1.2.2.2.2.2.2.2.2.2.1) ((d5.2 _ _ (fun hp => by unfold WFM NN at hp; omega)).trans b1.2.2.2.2.2.2.2.2.2.2) (fun z => ⟨r, c, hr, hc, nw + 1, kq, cl, sd, kn, zl, b1.wa hu d4 d5 (d6 z), hb.2.kp (w := 2) (by decide) (by decide) b27 (fun j h1 h2 => by rw [d4.2 _ _ (fun hp => by unfold WFX NY at hp; omega), c4.2 _ _ (fun hp => by unfold NX at hp; omega)]), hx.1, hx.2.1⟩)
theorem line_o8 {t n u a e r c hr hc nw cl sd kn ln : Nat} {bt kq zl : Nat → Nat} {SX SM : MS} (h : JO t n bt a e SX SM) (h0 : bt 1000 = 0) (hu : isT u) (hb : BD u SX SM r c hr hc nw kq cl sd kn zl ln) (hx : hr < r ∧ hc < c ∧ (ln = 0 → hr = 0 ∧ hc = 0)) (hk : gI SX 48 5 = 28) : ∃ SX1 SM1, fX5_readLine 48 SX = some SX1 ∧ fX11_line 0 SM = some SM1 ∧ LNo t n bt u e (ln + 1) SX SM SX1 SM1 := by
  by_cases ct : gI SX 48 14 = 0
  · have nt := hb.2.2.2.1.mp ct
    obtain ⟨q1, q2⟩ := (h.2.2.2.2.2.2.2.2.2.2.wrd (j := 8) (by decide)).mp hk
    obtain ⟨A, B, a1, e1, c1, c2, c3, c4, c5, c6, c7⟩ := j_word (u := u) (w := 8) h (by decide)
    have b1 := hb.1.wd hu c4 c5
    have hu' := hu
    unfold isT at hu'
    obtain ⟨C, D, x, d1, d2, d3, d4, d5, d6, d7, d8, d9, d10⟩ := L_one (fl := 14) (cx := 13) (cm := 23) (m := 100) (jm := 10) hu c3 b1.1.1 (by decide) (by decide) (by decide) (by decide) (by decide)
    have d1' : cloudX A = some C := d1
    have d2' : cloudM B = fX11_line_596 0 D := d2
    have eX : fX5_readLine 48 SX = fX5_readLine_150 48 C := by rw [X_line_8 hk, X_take_8 ct, c1, Option.bind_some, d1', Option.bind_some]
    have eM : fX11_line 0 SM = fX11_line_596 0 D := by rw [M_line_go h.2.1.1 q1 q2 (by decide) (fun q => absurd q (by decide)) (fun q => absurd q (by decide)), (M_42_once q1 q2 (by decide)).2 nt, M_114_8 h.2.2.2.1, c2, Option.bind_some, d2']
    rw [eX, eM]
    have b27 : gI D 0 27 = _ := (d5.2 0 27 (fun hp => by unfold CFM NN at hp; omega)).trans c7
    exact line_fin h0 hu d3 ((QFX.of c4 NX_PD).tr (QFX.of d4 (CFX_PD (by decide)))) ((c5.mo NM_Q).tr (d5.mo (CFM_Q (by decide)))) ((d4.2 _ _ (fun hp => by unfold CFX NY at hp; omega)).trans b1.2.2.2.2.2.2.2.2.2.1) ((d5.2 _ _ (fun hp => by unfold CFM NN at hp; omega)).trans b1.2.2.2.2.2.2.2.2.2.2) (fun z => ⟨r, c, hr, hc, nw, kq, x, sd, kn, zl, b1.cl hu d4 d5 ⟨d6, d7, d8⟩, hb.2.on (w := 8) (fl := 14) (by decide) b27 d9 (fun j h1 h2 h3 => by rw [d10 j h1 h2 h3, c4.2 _ _ (fun hp => by unfold NX at hp; omega)]), hx.1, hx.2.1⟩)
  · refine line_bad (line_told8 h hu hb.xd hk ct ?_)
    exact Classical.byContradiction (fun q => ct (hb.2.2.2.1.mpr q))
theorem line_o9 {t n u a e r c hr hc nw cl sd kn ln : Nat} {bt kq zl : Nat → Nat} {SX SM : MS} (h : JO t n bt a e SX SM) (h0 : bt 1000 = 0) (hu : isT u) (hb : BD u SX SM r c hr hc nw kq cl sd kn zl ln) (hx : hr < r ∧ hc < c ∧ (ln = 0 → hr = 0 ∧ hc = 0)) (hk : gI SX 48 5 = 29) : ∃ SX1 SM1, fX5_readLine 48 SX = some SX1 ∧ fX11_line 0 SM = some SM1 ∧ LNo t n bt u e (ln + 1) SX SM SX1 SM1 := by
  by_cases ct : gI SX 48 15 = 0
  · have nt := hb.2.2.2.2.mp ct
    obtain ⟨q1, q2⟩ := (h.2.2.2.2.2.2.2.2.2.2.wrd (j := 9) (by decide)).mp hk
    obtain ⟨A, B, a1, e1, c1, c2, c3, c4, c5, c6, c7⟩ := j_word (u := u) (w := 9) h (by decide)
    have b1 := hb.1.wd hu c4 c5
    have hu' := hu
    unfold isT at hu'
    obtain ⟨C, D, x, d1, d2, d3, d4, d5, d6, d7, d8, d9, d10⟩ := L_one (fl := 15) (cx := 14) (cm := 24) (m := 99999) (jm := 11) hu c3 b1.1.1 (by decide) (by decide) (by decide) (by decide) (by decide)
    have d1' : seedX A = some C := d1
    have d2' : seedM B = fX11_line_596 0 D := d2
    have eX : fX5_readLine 48 SX = fX5_readLine_150 48 C := by rw [X_line_9 hk, X_take_9 ct, c1, Option.bind_some, d1', Option.bind_some]
    have eM : fX11_line 0 SM = fX11_line_596 0 D := by rw [M_line_go h.2.1.1 q1 q2 (by decide) (fun q => absurd q (by decide)) (fun q => absurd q (by decide)), (M_42_once q1 q2 (by decide)).2 nt, M_114_9 h.2.2.2.1, c2, Option.bind_some, d2']
    rw [eX, eM]
    have b27 : gI D 0 27 = _ := (d5.2 0 27 (fun hp => by unfold CFM NN at hp; omega)).trans c7
    exact line_fin h0 hu d3 ((QFX.of c4 NX_PD).tr (QFX.of d4 (CFX_PD (by decide)))) ((c5.mo NM_Q).tr (d5.mo (CFM_Q (by decide)))) ((d4.2 _ _ (fun hp => by unfold CFX NY at hp; omega)).trans b1.2.2.2.2.2.2.2.2.2.1) ((d5.2 _ _ (fun hp => by unfold CFM NN at hp; omega)).trans b1.2.2.2.2.2.2.2.2.2.2) (fun z => ⟨r, c, hr, hc, nw, kq, cl, x, kn, zl, b1.sd hu d4 d5 ⟨d6, d7, d8⟩, hb.2.on (w := 9) (fl := 15) (by decide) b27 d9 (fun j h1 h2 h3 => by rw [d10 j h1 h2 h3, c4.2 _ _ (fun hp => by unfold NX at hp; omega)]), hx.1, hx.2.1⟩)
  · refine line_bad (line_told9 h hu hb.xd hk ct ?_)
    exact Classical.byContradiction (fun q => ct (hb.2.2.2.2.mpr q))
