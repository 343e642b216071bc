/-! ===== calls that only look ===== -/
theorem sim_ro {SX SM : MS} {fx : Option Int32} {fm : Option (Int32 × MS)} (h : Inv SX SM) (hh : ∃ v, fx = some v ∧ fm = some (v, th0 SM)) : ∃ (qX : Int32) (qM : Int32 × MS), fx = some qX ∧ fm = some qM ∧ qX = qM.1 ∧ Inv SX qM.2 := by
  obtain ⟨v, h1, h2⟩ := hh
  obtain ⟨t, T, h⟩ := h
  exact ⟨v, (v, th0 SM), h1, h2, rfl, t, T, h.th⟩
theorem has_dec {x n : Int32} : (if x < 0 then some (0 : Int32) else if n ≤ x then some 0 else some 1) = some (b2i (decide (0 ≤ x ∧ x < n))) := by unfold b2i; grind
theorem M_isMan {S : MS} {x : Int32} (hM : MR S) : fX11_isMan 0 x S = some (b2i (decide (0 ≤ x ∧ x < sc (tM S) 4))) := by
  have e : gI S 2 9 = sc (tM S) 4 := rfl
  unfold fX11_isMan
  rw [mr_3 hM, lm_2, show bnd (9 : Int32) 26 = true from rfl, if_pos rfl, show (9 : Int32).toNatClampNeg = 9 from rfl, e]
  exact has_dec
theorem M_isLamp {S : MS} {x : Int32} (hM : MR S) : fX11_isLamp 0 x S = some (b2i (decide (0 ≤ x ∧ x < sc (tM S) 1))) := by
  have e : gI S 2 6 = sc (tM S) 1 := rfl
  unfold fX11_isLamp
  rw [mr_3 hM, lm_2, show bnd (6 : Int32) 26 = true from rfl, if_pos rfl, show (6 : Int32).toNatClampNeg = 6 from rfl, e]
  exact has_dec
theorem M_isDoing {S : MS} {x : Int32} (hM : MR S) : fX11_isDoing 0 x S = some (b2i (decide (0 ≤ x ∧ x < sc (tM S) 3))) := by
  have e : gI S 2 8 = sc (tM S) 3 := rfl
  unfold fX11_isDoing
  rw [mr_3 hM, lm_2, show bnd (8 : Int32) 26 = true from rfl, if_pos rfl, show (8 : Int32).toNatClampNeg = 8 from rfl, e]
  exact has_dec
theorem nq_I {T : TT} {q : Nat} (hC : WC T) (hq : q < 5) : nI (nq T q) = sc T q := nI_back (hC q hq).1
theorem X_isLamp {t : Nat} {S : MS} {x : Int32} (h : XO t S) (hC : WC (tX S t)) : fX7_has (t + 5) x S = some (b2i (decide (0 ≤ x ∧ x < sc (tX S t) 1))) := by
  rw [X_has (tbl_1 h.1 h.2.1 h.1.1 hC), nq_I hC (by decide)]
theorem X_isDoing {t : Nat} {S : MS} {x : Int32} (h : XO t S) (hC : WC (tX S t)) : fX7_has (t + 9) x S = some (b2i (decide (0 ≤ x ∧ x < sc (tX S t) 3))) := by
  rw [X_has (tbl_3 h.1 h.2.1 h.1.1 hC), nq_I hC (by decide)]
theorem X_isMan {t : Nat} {S : MS} {x : Int32} (h : XO t S) (hC : WC (tX S t)) : fX10_isMan 0 x S = some (b2i (decide (0 ≤ x ∧ x < sc (tX S t) 4))) := by
  unfold fX10_isMan
  rw [rx_told h.1, rt_6 h.1 h.1.1, X_has (tbl_4 h.1 h.2.1 h.1.1 hC), nq_I hC (by decide), Option.bind_some]
  have h4 : sc (tX S t) 4 ≤ 4 := (hC 4 (by decide)).2
  generalize sc (tX S t) 4 = n at h4
  unfold b2i; grind
theorem idx_of {T : TT} {q : Nat} {x : Int32} (hC : WC T) (hq : q < 5) (h : 0 ≤ x ∧ x < sc T q) : ∃ i, i < nq T q ∧ i < 12 ∧ x = nI i := by
  obtain ⟨i, hi, rfl⟩ := nI_of (Int32.not_lt.mpr h.1)
  have hn := nq_le hC
  have hq' : nq T q ≤ 12 := by rcases (by omega : q = 0 ∨ q = 1 ∨ q = 2 ∨ q = 3 ∨ q = 4) with rfl | rfl | rfl | rfl | rfl <;> omega
  have h2 := h.2
  rw [← nq_I hC hq, nI_ltI hi (by omega)] at h2
  exact ⟨i, h2, by omega, rfl⟩
theorem X_tb {S : MS} {u q i c : Nat} (hq : q < 5) (hc : c < wid q) (hi : i < nq (tX S u) q) : tb (tX S u) q i c = gI S (u + 4 + 2 * q) (i * wid q + c) := by
  show tbX S u q i c = _
  have e : nq (tX S u) q = (gI S (u + 3 + 2 * q) 3).toNatClampNeg := by
    show (scX S u q).toNatClampNeg = _
    unfold scX; rw [if_pos hq]
  rw [e] at hi
  unfold tbX; rw [if_pos ⟨hq, hc, hi⟩]
theorem sim_2 : Sim_2 Inv := by
  intro SX SM z0 h
  refine sim_ro h ?_
  obtain ⟨t, T, h⟩ := h
  have hf := h.2.2.2.2.2.2
  unfold fX10_fault fX11_fault
  rw [gI_nek (by decide), gI_nek (by decide), hf.1, hf.2]
  by_cases c0 : z0 = 0
  · rw [if_pos c0, if_pos c0]; exact ⟨_, rfl, rfl⟩
  · rw [if_neg c0, if_neg c0]
    by_cases c1 : z0 = 1
    · rw [if_pos c1, if_pos c1]; exact ⟨_, rfl, rfl⟩
    · rw [if_neg c1, if_neg c1]; exact ⟨_, rfl, rfl⟩
theorem fnd_tb {SX SM : MS} {T : TT} {t q : Nat} {v : Int32} (ex : tX SX t = T) (em : tM SM = T) (hq : q < 5) : fnd (fun k => gI SX (t + 4 + 2 * q) (k * wid q + 0)) v (nq T q) 0 = fnd (fun k => gI SM (mB q) (0 + k)) v (nq T q) 0 := by
  have hw : 0 < wid q := by rcases (by omega : q = 0 ∨ q = 1 ∨ q = 2 ∨ q = 3 ∨ q = 4) with rfl | rfl | rfl | rfl | rfl <;> decide
  refine fnd_congr _ _ (fun k _ h2 => ?_)
  rw [Nat.zero_add] at h2
  have a := X_tb (S := SX) (u := t) (c := 0) hq hw (by rw [ex]; exact h2)
  have b := M_tb (S := SM) (c := 0) hq hw (by rw [em]; exact h2)
  rw [ex] at a; rw [em] at b
  rw [← a, b, Nat.zero_add, Nat.add_zero]
theorem sim_3 : Sim_3 Inv := by
  intro SX SM z0 z1 h
  refine sim_ro h ?_
  obtain ⟨t, T, h⟩ := h
  obtain ⟨hX, hM, ex, em, hW, h57, hE⟩ := h.th.1
  have hC := hW.1
  have hn := nq_le hC
  have hC' : WC (tX SX t) := by rw [ex]; exact hC
  have hCm : WC (tM (th0 SM)) := by rw [em]; exact hC
  have f1 := X_find (v := z1) (tbl_1 hX.1 hX.2.1 hX.1.1 hC') (show 0 < 4 by decide)
  have f3 := X_find (v := z1) (tbl_3 hX.1 hX.2.1 hX.1.1 hC') (show 0 < 5 by decide)
  have f4 := X_find (v := z1) (tbl_4 hX.1 hX.2.1 hX.1.1 hC') (show 0 < 3 by decide)
  have c1 := (M_cnt (q := 1) hCm (by decide)).1
  have c3 := (M_cnt (q := 3) hCm (by decide)).1
  have c4 := (M_cnt (q := 4) hCm (by decide)).1
  rw [em] at c1 c3 c4
  rw [ex] at f1 f3 f4
  have g1 := M_found (S := th0 SM) (o := 7) (a := 0) (n := nq T 1) (v := z1) (by rw [lm_7]; omega) (by decide)
  have g3 := M_found (S := th0 SM) (o := 13) (a := 0) (n := nq T 3) (v := z1) (by rw [lm_13]; omega) (by decide)
  have g4 := M_found (S := th0 SM) (o := 18) (a := 0) (n := nq T 4) (v := z1) (by rw [lm_18]; omega) (by decide)
  have k1 : fnd (fun k => gI SX (t + 5 + 1) (k * 4 + 0)) z1 (nq T 1) 0 = fnd (fun k => gI (th0 SM) 7 (0 + k)) z1 (nq T 1) 0 := fnd_tb (q := 1) ex em (by decide)
  rw [← k1] at g1
  have k3 : fnd (fun k => gI SX (t + 9 + 1) (k * 5 + 0)) z1 (nq T 3) 0 = fnd (fun k => gI (th0 SM) 13 (0 + k)) z1 (nq T 3) 0 := fnd_tb (q := 3) ex em (by decide)
  rw [← k3] at g3
  have k4 : fnd (fun k => gI SX (t + 11 + 1) (k * 3 + 0)) z1 (nq T 4) 0 = fnd (fun k => gI (th0 SM) 18 (0 + k)) z1 (nq T 4) 0 := fnd_tb (q := 4) ex em (by decide)
  rw [← k4] at g4
  have f1 : fX7_find (t + 5) (0 : Int32) z1 SX = _ := f1
  have f3 : fX7_find (t + 9) (0 : Int32) z1 SX = _ := f3
  have f4 : fX7_find (t + 11) (0 : Int32) z1 SX = _ := f4
  have g1 : fX11_found 7 (0 : Int32) (nI (nq T 1)) z1 (th0 SM) = _ := g1
  have g3 : fX11_found 13 (0 : Int32) (nI (nq T 3)) z1 (th0 SM) = _ := g3
  have g4 : fX11_found 18 (0 : Int32) (nI (nq T 4)) z1 (th0 SM) = _ := g4
  unfold fX10_named fX11_named
  by_cases d0 : z0 = 0
  · rw [if_pos d0, if_pos d0, rx_told hX.1, rt_3 hX.1 hX.1.1, f1, mr_3 hM.1, lm_2, show bnd (6 : Int32) 26 = true from rfl, if_pos rfl, mr_8 hM.1, show (6 : Int32).toNatClampNeg = 5 + 1 from rfl, c1, g1]
    exact ⟨_, rfl, rfl⟩
  · rw [if_neg d0, if_neg d0]
    by_cases d1 : z0 = 1
    · rw [if_pos d1, if_pos d1, rx_told hX.1, rt_5 hX.1 hX.1.1, f3, mr_3 hM.1, lm_2, show bnd (8 : Int32) 26 = true from rfl, if_pos rfl, mr_14 hM.1, show (8 : Int32).toNatClampNeg = 5 + 3 from rfl, c3, g3]
      exact ⟨_, rfl, rfl⟩
    · rw [if_neg d1, if_neg d1]
      by_cases d2 : z0 = 2
      · rw [if_pos d2, if_pos d2, rx_told hX.1, rt_6 hX.1 hX.1.1, f4, mr_3 hM.1, lm_2, show bnd (9 : Int32) 26 = true from rfl, if_pos rfl, mr_19 hM.1, show (9 : Int32).toNatClampNeg = 5 + 4 from rfl, c4, g4]
        exact ⟨_, rfl, rfl⟩
      · rw [if_neg d2, if_neg d2]; exact ⟨_, rfl, rfl⟩
theorem b2i_t : ¬ b2i true = 0 := by decide
theorem b2i_f : b2i false = 0 := rfl
theorem eng {a b : Int32} : (if a = b then some (-2 : Int32) else if a ≤ b then some 1 else some 0) = (if a ≤ b then (if b ≤ a then some (-2 : Int32) else some 1) else some 0) := by grind
theorem sim_6 : Sim_6 Inv := by
  intro SX SM z0 z1 h
  refine sim_ro h ?_
  obtain ⟨t, T, h⟩ := h
  have hw := h.th.2.1.1
  obtain ⟨hX, hM, ex, em, hW, h57, hE⟩ := h.th.1
  have hC := hW.1
  have hn := nq_le hC
  have hC' : WC (tX SX t) := by rw [ex]; exact hC
  unfold fX10_man fX11_man
  rw [X_isMan hX hC', M_isMan hM.1, ex, em]
  by_cases hz : 0 ≤ z0 ∧ z0 < sc T 4
  · rw [decide_eq_true hz]
    obtain ⟨i, hi, -, rfl⟩ := idx_of hC (by decide) hz
    have hi' : i < nq (tM (th0 SM)) 4 := by rw [em]; exact hi
    have a1 := X_g_4_1 (x := nI i) hX.1 hX.2.1 hX.1.1 hC'
    have a2 := X_g_4_2 (x := nI i) hX.1 hX.2.1 hX.1.1 hC'
    rw [ex, tb_get (by omega)] at a1 a2
    have m1 : gI (th0 SM) 19 i = tb T 4 i 1 := by rw [← em]; exact (M_tb (q := 4) (c := 1) (by decide) (by decide) hi').symm
    have m2 : gI (th0 SM) 20 i = tb T 4 i 2 := by rw [← em]; exact (M_tb (q := 4) (c := 2) (by decide) (by decide) hi').symm
    have w1 : gI SX 88 i = gI (th0 SM) 36 i := by
      rw [show (88 : Nat) = 87 + 1 from rfl, ← wX_20 (by omega), hw, wM_20 (by omega), Nat.mul_zero, Nat.zero_add]
    have w2 : gI SX 89 i = gI (th0 SM) 37 i := by
      rw [show (89 : Nat) = 87 + 2 from rfl, ← wX_30 (by omega), hw, wM_30 (by omega), Nat.mul_zero, Nat.zero_add]
    have w3 : gI SX 90 i = gI (th0 SM) 38 i := by
      rw [show (90 : Nat) = 87 + 3 from rfl, ← wX_40 (by omega), hw, wM_40 (by omega), Nat.mul_zero, Nat.zero_add]
    have W87 : isW 87 := by unfold isW; decide
    unfold fX10_engagedTo fX11_engagedTo
    simp only [Option.bind_some, b2i_t, if_false, rx_told hX.1, rt_6 hX.1 hX.1.1, rx_0_9 hX.1, rw_0 hX.1 W87, rw_1 hX.1 W87, rw_2 hX.1 W87, lw_1 W87, lw_2 W87, lw_3 W87, bnd_nI (show i < 4 by omega) (by decide), if_true, nI_clamp (show i < 2 ^ 31 by omega), a1, a2, mr_20 hM.1, mr_21 hM.1, mr_52 hM.1, mr_53 hM.1, mr_54 hM.1, lm_19, lm_20, lm_36, lm_37, lm_38, bnd_nI (show i < 8 by omega) (by decide), bnd_nI (show i < 92 by omega) (by decide), m1, m2, w1, w2, w3, eng]
    by_cases k0 : z1 = 0
    · rw [if_pos k0, if_pos k0]; exact ⟨_, rfl, rfl⟩
    · rw [if_neg k0, if_neg k0]
      by_cases k1 : z1 = 1
      · rw [if_pos k1, if_pos k1]; exact ⟨_, rfl, rfl⟩
      · rw [if_neg k1, if_neg k1]
        by_cases k2 : z1 = 2
        · rw [if_pos k2, if_pos k2]; exact ⟨_, rfl, rfl⟩
        · rw [if_neg k2, if_neg k2]
          by_cases k3 : z1 = 3
          · rw [if_pos k3, if_pos k3]; exact ⟨_, rfl, rfl⟩
          · rw [if_neg k3, if_neg k3]
            by_cases k4 : z1 = 4
            · rw [if_pos k4, if_pos k4]; exact ⟨_, rfl, rfl⟩
            · rw [if_neg k4, if_neg k4]
              by_cases k5 : z1 = 5
              · rw [if_pos k5, if_pos k5]
                split
                · split
                  · exact ⟨_, rfl, rfl⟩
                  · exact ⟨_, rfl, rfl⟩
                · exact ⟨_, rfl, rfl⟩
              · rw [if_neg k5, if_neg k5]; exact ⟨_, rfl, rfl⟩
  · rw [decide_eq_false hz]; exact ⟨_, rfl, rfl⟩
theorem i3_n {z : Int32} (h1 : ¬ z < 0) (h2 : z ≤ 3) (h3 : z ≠ 3) : z = 0 ∨ z = 1 ∨ z = 2 := by
  have := i3_r (Int32.not_lt.mp h1) h2; grind
theorem sim_7 : Sim_7 Inv := by
  intro SX SM z0 z1 h
  refine sim_ro h ?_
  obtain ⟨t, T, h⟩ := h
  have hw := h.th.2.1.1
  obtain ⟨hX, hM, ex, em, hW, h57, hE⟩ := h.th.1
  have hC := hW.1
  have hn := nq_le hC
  have hC' : WC (tX SX t) := by rw [ex]; exact hC
  unfold fX10_lamp fX11_lamp
  rw [rx_told hX.1, rt_3 hX.1 hX.1.1, X_isLamp hX hC', M_isLamp hM.1, ex, em]
  by_cases hz : 0 ≤ z0 ∧ z0 < sc T 1
  · rw [decide_eq_true hz]
    obtain ⟨i, hi, -, rfl⟩ := idx_of hC (by decide) hz
    have hi' : i < nq (tM (th0 SM)) 1 := by rw [em]; exact hi
    have a1 := X_g_1_1 (x := nI i) hX.1 hX.2.1 hX.1.1 hC'
    have a2 := X_g_1_2 (x := nI i) hX.1 hX.2.1 hX.1.1 hC'
    have a3 := X_g_1_3 (x := nI i) hX.1 hX.2.1 hX.1.1 hC'
    rw [ex, tb_get (by omega)] at a1 a2 a3
    have m1 : gI (th0 SM) 8 i = tb T 1 i 1 := by rw [← em]; exact (M_tb (q := 1) (c := 1) (by decide) (by decide) hi').symm
    have m2 : gI (th0 SM) 9 i = tb T 1 i 2 := by rw [← em]; exact (M_tb (q := 1) (c := 2) (by decide) (by decide) hi').symm
    have m3 : gI (th0 SM) 10 i = tb T 1 i 3 := by rw [← em]; exact (M_tb (q := 1) (c := 3) (by decide) (by decide) hi').symm
    have w7 : gI SX 87 7 = gI (th0 SM) 34 0 := congrFun hw 7
    simp only [Option.bind_some, b2i_t, if_false, rx_0_9 hX.1, mr_9 hM.1, mr_10 hM.1, mr_11 hM.1, mr_50 hM.1, lm_8, lm_9, lm_10, lm_34, bnd_nI (show i < 8 by omega) (by decide), show bnd (0 : Int32) 23 = true from rfl, show (0 : Int32).toNatClampNeg = 0 from rfl, if_true, nI_clamp (show i < 2 ^ 31 by omega), m1, m2, m3, w7]
    by_cases k0 : z1 < 0
    · rw [if_pos k0, if_neg (by rintro rfl; exact absurd k0 (by decide)), if_neg (by rintro rfl; exact absurd k0 (by decide)), if_neg (by rintro rfl; exact absurd k0 (by decide)), if_neg (by rintro rfl; exact absurd k0 (by decide))]
      exact ⟨_, rfl, rfl⟩
    · rw [if_neg k0]
      by_cases k3 : z1 ≤ 3
      · rw [if_pos k3]
        by_cases k : z1 = 3
        · subst k; exact ⟨_, rfl, rfl⟩
        · rw [if_neg k]
          rcases i3_n k0 k3 k with rfl | rfl | rfl
          · rw [show (1 : Int32) + 0 = 1 from rfl, a1]; exact ⟨_, rfl, rfl⟩
          · rw [show (1 : Int32) + 1 = 2 from rfl, a2]; exact ⟨_, rfl, rfl⟩
          · rw [show (1 : Int32) + 2 = 3 from rfl, a3]; exact ⟨_, rfl, rfl⟩
      · rw [if_neg k3, if_neg (by rintro rfl; exact absurd k3 (by decide)), if_neg (by rintro rfl; exact absurd k3 (by decide)), if_neg (by rintro rfl; exact absurd k3 (by decide)), if_neg (by rintro rfl; exact absurd k3 (by decide))]
        exact ⟨_, rfl, rfl⟩
  · rw [decide_eq_false hz]; exact ⟨_, rfl, rfl⟩
theorem sim_8 : Sim_8 Inv := by
  intro SX SM z0 z1 h
  refine sim_ro h ?_
  obtain ⟨t, T, h⟩ := h
  obtain ⟨hX, hM, ex, em, hW, h57, hE⟩ := h.th.1
  have hD := hW.2.2.2.1
  unfold fX10_wall fX11_wall
  rw [rx_told hX.1, X_isCell, M_isCell hM.1, ex, em]
  cases hc : cellB T z0 z1 with
  | false => exact ⟨_, rfl, rfl⟩
  | true =>
    have a := X_isWall (r := z0) (c := z1) hX.1 hX.1.1 (by rw [ex]; exact hD)
    have b := M_isWall (r := z0) (c := z1) hM.1 (by rw [em]; exact hD) hM.2.2 (by rw [em]; exact hc)
    rw [ex, hc, Bool.true_and] at a
    rw [em] at b
    rw [Option.bind_some, if_neg b2i_t, Option.bind_some, if_neg b2i_t, a, b]
    cases wallB T z0 z1 <;> exact ⟨_, rfl, rfl⟩
theorem i4_n {z : Int32} (h1 : ¬ z < 0) (h2 : z ≤ 4) (h3 : z ≠ 4) : z = 0 ∨ z = 1 ∨ z = 2 ∨ z = 3 := by
  have h4 : z ≤ 3 := by grind
  exact i3_r (Int32.not_lt.mp h1) h4
theorem sim_5 : Sim_5 Inv := by
  intro SX SM z0 z1 h
  have hw := h
  obtain ⟨t, T, h⟩ := h
  have hnw := h.2.1.1
  obtain ⟨hX, hM, ex, em, hW, h57, hE⟩ := h.1
  have hC := hW.1
  have hn := nq_le hC
  have hC' : WC (tX SX t) := by rw [ex]; exact hC
  have thr : ∀ v, Inv SX (pI SM 0 0 v) := fun v => ⟨t, T, h.quiet Fr.rf rfl (Fr.rf.pI (Or.inl ⟨rfl, Or.inl rfl⟩)) (wM_ne (by omega))⟩
  have e0 : ∀ v, gI (pI SM 0 0 v) 0 0 = v := fun v => gI_same
  unfold fX10_doing fX11_doing
  rw [rx_told hX.1, rt_5 hX.1 hX.1.1, X_isDoing hX hC', M_isDoing hM.1, ex, em]
  unfold fX11_doing_22 fX11_doing_27
  simp only [e0]
  by_cases hz : 0 ≤ z0 ∧ z0 < sc T 3
  · rw [decide_eq_true hz]
    obtain ⟨i, hi, -, rfl⟩ := idx_of hC (by decide) hz
    have hi' : i < nq (tM SM) 3 := by rw [em]; exact hi
    have a1 := X_g_3_1 (x := nI i) hX.1 hX.2.1 hX.1.1 hC'
    have a2 := X_g_3_2 (x := nI i) hX.1 hX.2.1 hX.1.1 hC'
    have a3 := X_g_3_3 (x := nI i) hX.1 hX.2.1 hX.1.1 hC'
    have a4 := X_g_3_4 (x := nI i) hX.1 hX.2.1 hX.1.1 hC'
    rw [ex, tb_get (by omega)] at a1 a2 a3 a4
    have m1 : gI (pI SM 0 0 0) 14 i = tb T 3 i 1 := by rw [gI_neo (by decide), ← em]; exact (M_tb (q := 3) (c := 1) (by decide) (by decide) hi').symm
    have m2 : gI (pI SM 0 0 0) 15 i = tb T 3 i 2 := by rw [gI_neo (by decide), ← em]; exact (M_tb (q := 3) (c := 2) (by decide) (by decide) hi').symm
    have m3 : gI (pI SM 0 0 0) 16 i = tb T 3 i 3 := by rw [gI_neo (by decide), ← em]; exact (M_tb (q := 3) (c := 3) (by decide) (by decide) hi').symm
    have m4 : gI (pI SM 0 0 0) 17 i = tb T 3 i 4 := by rw [gI_neo (by decide), ← em]; exact (M_tb (q := 3) (c := 4) (by decide) (by decide) hi').symm
    have w8 : gI SX 87 8 = gI (pI SM 0 0 0) 35 0 := by rw [gI_neo (by decide)]; exact congrFun hnw 8
    simp only [Option.bind_some, b2i_t, if_false, gR_pI, rx_0_9 hX.1, mr_15 hM.1, mr_16 hM.1, mr_17 hM.1, mr_18 hM.1, mr_51 hM.1, lm_14, lm_15, lm_16, lm_17, lm_35, bnd_nI (show i < 16 by omega) (by decide), show bnd (0 : Int32) 23 = true from rfl, show (0 : Int32).toNatClampNeg = 0 from rfl, if_true, nI_clamp (show i < 2 ^ 31 by omega), m1, m2, m3, m4, w8, show ¬ (2 : Int32) = 0 by decide]
    by_cases k0 : z1 < 0
    · rw [if_pos k0, if_pos k0]
      exact ⟨(2, 0), (0, pI SM 0 0 2), rfl, rfl, rfl, fun hh => absurd hh (by decide), thr 2⟩
    · rw [if_neg k0, if_neg k0]
      by_cases k4 : z1 ≤ 4
      · rw [if_pos k4, if_pos k4]
        by_cases k : z1 = 4
        · subst k; exact ⟨(0, _), (_, pI SM 0 0 0), rfl, rfl, rfl, fun _ => rfl, thr 0⟩
        · rw [if_neg k]
          rcases i4_n k0 k4 k with rfl | rfl | rfl | rfl
          · rw [show (1 : Int32) + 0 = 1 from rfl, a1]; exact ⟨(0, _), (_, pI SM 0 0 0), rfl, rfl, rfl, fun _ => rfl, thr 0⟩
          · rw [show (1 : Int32) + 1 = 2 from rfl, a2]; exact ⟨(0, _), (_, pI SM 0 0 0), rfl, rfl, rfl, fun _ => rfl, thr 0⟩
          · rw [show (1 : Int32) + 2 = 3 from rfl, a3]; exact ⟨(0, _), (_, pI SM 0 0 0), rfl, rfl, rfl, fun _ => rfl, thr 0⟩
          · rw [show (1 : Int32) + 3 = 4 from rfl, a4]; exact ⟨(0, _), (_, pI SM 0 0 0), rfl, rfl, rfl, fun _ => rfl, thr 0⟩
      · rw [if_neg k4, if_neg k4]
        exact ⟨(2, 0), (0, pI SM 0 0 2), rfl, rfl, rfl, fun hh => absurd hh (by decide), thr 2⟩
  · rw [decide_eq_false hz]
    exact ⟨(1, 0), (0, pI SM 0 0 1), rfl, rfl, rfl, fun hh => absurd hh (by decide), thr 1⟩
