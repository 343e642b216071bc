/-! ===== what comes ===== -/
theorem run_start {t : Nat} {T : TT} {SX SM : MS} (hv : Iv t T SX SM) : ∃ S1 M1, fX9_become 95 87 SX = some S1 ∧ fX11_copies 0 (1 : Int32) (0 : Int32) SM = some M1 ∧ Iv t T S1 M1 ∧ wX S1 95 = wM SM 0 ∧ wM M1 1 = wM SM 0 ∧ wX S1 87 = wX SX 87 ∧ wM M1 0 = wM SM 0 ∧ Fr (PX 95) SX S1 ∧ Fr (PMw 1) SM M1 := by
  obtain ⟨hX, hM, ex, em, hW, h57, hE⟩ := hv.1
  obtain ⟨S1, q1, q2, q3⟩ := X_become hX.1 W95 W87 (by decide)
  obtain ⟨M1, r1, r2, r3⟩ := M_copies (a := 1) (b := 0) hM.1 (by decide) (by decide) (by decide)
  have e1 : wX S1 87 = wX SX 87 := Fr.wld q3 (fun o j a b hp => by unfold PX at hp; omega)
  have e2 : wM M1 0 = wM SM 0 := PMw_wM r3 (by decide)
  exact ⟨S1, M1, q1, r1, hv.quiet (q3.mo PX95_Q) e1 (r3.mo (fun o j hp => PM1_Q o j (PMw_M o j hp))) e2, by rw [q2, hv.2.1.1], r2, e1, e2, q3, r3⟩
theorem Iv.run {t : Nat} {T : TT} {SX SM SX1 SM1 : MS} (hv : Iv t T SX SM) (fx : Fr (PX 95) SX SX1) (fm : Fr (PM 1) SM SM1) : Iv t T SX1 SM1 :=
  hv.quiet (fx.mo PX95_Q) (Fr.wld fx (fun o j a b hp => by unfold PX at hp; omega)) (fm.mo PM1_Q) (Fr.wldM fm (by decide))
def fonGo (w : Nat → Int32) : Nat → Nat → Int32 → Int32
  | 0, _, a => a
  | n + 1, i, a => fonGo w n (i + 1) (a + w (40 + i))
theorem X_fon_go {t w : Nat} {S : MS} (h : RX t S) (hw : isW w) : ∀ (d i fuel : Nat) (a : Int32), 4 = i + d → d < fuel → fX9_fondInAll_4 fuel w a (nI i) S = some (fonGo (wX S w) d i a) := by
  intro d
  induction d with
  | zero =>
    intro i fuel a e1 e2
    obtain ⟨f, rfl⟩ : ∃ f, fuel = f + 1 := ⟨fuel - 1, by omega⟩
    unfold fX9_fondInAll_4
    rw [show i = 4 from by omega, if_pos (by decide)]; rfl
  | succ d ih =>
    intro i fuel a e1 e2
    obtain ⟨f, rfl⟩ : ∃ f, fuel = f + 1 := ⟨fuel - 1, by omega⟩
    unfold fX9_fondInAll_4
    rw [if_neg (nle4 (by omega)), rw_2 h hw, lw_3 hw, bnd_nI (show i < 4 by omega) (by decide), if_pos rfl, nI_clamp (by omega), nI_1, ih (i + 1) f _ (by omega) (by omega), ← wX_40 (show i < 4 by omega)]
    rfl
theorem X_fon {t w : Nat} {S : MS} (h : RX t S) (hw : isW w) : fX9_fondInAll w S = some (fonGo (wX S w) 4 0 0) := X_fon_go h hw 4 0 1000 0 rfl (by decide)
theorem M_fon_go {r : Nat} {S : MS} {T : TT} (h : MR S) (et : tM S = T) (hC : WC T) (hr : r < 23) : ∀ (d i fuel : Nat) (a : Int32), nq T 4 = i + d → d < fuel → fX11_fondAll_4 fuel 0 (nI r) a (nI i) S = some (fonGo (wM S r) d i a) := by
  have hn := nq_le hC
  have ec : gI S 2 9 = nI (nq T 4) := by have := (M_cnt (S := S) (q := 4) (by rw [et]; exact hC) (by decide)).1; rw [et] at this; exact this
  intro d
  induction d with
  | zero =>
    intro i fuel a e1 e2
    obtain ⟨f, rfl⟩ : ∃ f, fuel = f + 1 := ⟨fuel - 1, by omega⟩
    unfold fX11_fondAll_4
    rw [mr_3 h, lm_2, show bnd (9 : Int32) 26 = true from rfl, if_pos rfl, show (9 : Int32).toNatClampNeg = 9 from rfl, ec, e1, Nat.add_zero, if_pos (Int32.le_refl _)]; rfl
  | succ d ih =>
    intro i fuel a e1 e2
    obtain ⟨f, rfl⟩ : ∃ f, fuel = f + 1 := ⟨fuel - 1, by omega⟩
    have hin : ¬ nI (nq T 4) ≤ nI i := by rw [nI_leI (by omega) (by omega)]; omega
    unfold fX11_fondAll_4
    rw [mr_3 h, lm_2, show bnd (9 : Int32) 26 = true from rfl, if_pos rfl, show (9 : Int32).toNatClampNeg = 9 from rfl, ec, if_neg hin, mr_54 h, lm_38, idx4, bnd_nI (show 4 * r + i < 92 by omega) (by decide), if_pos rfl, nI_clamp (by omega), nI_1, ih (i + 1) f _ (by omega) (by omega), ← wM_40 (show i < 4 by omega)]
    rfl
theorem M_fon {r : Nat} {S : MS} {T : TT} (h : MR S) (et : tM S = T) (hC : WC T) (hr : r < 23) : fX11_fondAll 0 (nI r) S = some (fonGo (wM S r) (nq T 4) 0 0) := by
  have hn := nq_le hC
  exact M_fon_go h et hC hr _ 0 1000 0 (Nat.zero_add _).symm (by omega)
theorem fon_diff {v w : Nat → Int32} {n : Nat} (hn : n ≤ 4) (h : ∀ j, j < 4 → n ≤ j → v (40 + j) = w (40 + j)) : fonGo v 4 0 0 - fonGo w 4 0 0 = fonGo v n 0 0 - fonGo w n 0 0 := by
  rcases (by omega : n = 0 ∨ n = 1 ∨ n = 2 ∨ n = 3 ∨ n = 4) with rfl | rfl | rfl | rfl | rfl
  · simp only [fonGo]
    rw [h 0 (by decide) (by decide), h 1 (by decide) (by decide), h 2 (by decide) (by decide), h 3 (by decide) (by decide)]; grind
  · simp only [fonGo]
    rw [h 1 (by decide) (by decide), h 2 (by decide) (by decide), h 3 (by decide) (by decide)]; grind
  · simp only [fonGo]
    rw [h 2 (by decide) (by decide), h 3 (by decide) (by decide)]; grind
  · simp only [fonGo]
    rw [h 3 (by decide) (by decide)]; grind
  · rfl
theorem sim_14 : Sim_14 Inv := by
  intro SX SM z0 z1 ⟨t, T, h⟩
  have hv := h.th
  have hiv : Inv SX (th0 SM) := ⟨t, T, hv⟩
  obtain ⟨hX, hM, ex, em, hW, h57, hE⟩ := hv.1
  have hw := hv.2.1.1
  have hk := hv.2.1.2.1
  have hn4 := nq_le hW.1
  obtain ⟨a, ha, ea⟩ := hour_of hk hv.2.1.2.2
  unfold fX10_ahead fX11_ahead
  rw [X_hours, Option.bind_some]
  by_cases hz : 0 ≤ z0 ∧ z0 ≤ 99
  · rw [decide_eq_true hz, if_neg b2i_t]
    obtain ⟨n, hn, rfl⟩ := hours_of hz
    rw [if_neg (nI_pos (by omega)), if_neg (Int32.not_lt.mpr hz.2)]
    by_cases c1 : z1 < 0
    · rw [if_pos c1, if_pos c1]; exact ⟨_, _, rfl, rfl, rfl, hiv⟩
    rw [if_neg c1, if_neg c1]
    by_cases c2 : z1 ≤ 4
    · rw [if_pos c2, if_pos c2]
      obtain ⟨S1, M1, q1, r1, hv1, w1, w2, w3, w4, -, -⟩ := run_start hv
      obtain ⟨hX1, hM1, ex1, em1, -, h571, -⟩ := hv1.1
      obtain ⟨S2, a1, a2, a3⟩ := X_all (w := 95) (n := n) (h := a) hX1 W95 ex1 hW (by rw [w1]; exact hk) HW00 (by rw [w1]; exact ea) hn (by omega) (fun hh => absurd hh (by decide))
      obtain ⟨M2, b1, b2, b3, b4⟩ := M_on (n := n) (h := a) hM1 em1 hW (by rw [w2]; exact hk) (by rw [w2]; exact ea) hn (by omega) h571
      have hv2 := hv1.run a3 b3
      obtain ⟨hX2, hM2, ex2, em2, -, -, -⟩ := hv2.1
      have hw2 := hv2.2.1.1
      have hk2 := hv2.2.1.2.1
      have m0 : wM M2 0 = wM (th0 SM) 0 := by rw [Fr.wldM b3 (by decide), w4]
      rw [w1] at a2
      rw [w2] at b2
      obtain ⟨p1, p2⟩ := passN_ok (tw := 0) (dr := false) hW n a (wM (th0 SM) 0) hk ea (by omega)
      have wR : wX S2 95 = wM M2 1 := by rw [a2, b2]
      have kR : WOK T (wM M2 1) := by rw [b2]; exact p1
      have x8 : gI S2 95 8 = wM M2 1 8 := congrFun wR 8
      have x9 : gI S2 95 9 = gI M2 29 1 := congrFun wR 9
      have x10 : gI S2 95 10 = gI M2 33 1 := congrFun wR 10
      have y8 : gI S2 87 8 = wM M2 0 8 := congrFun hw2 8
      have y9 : gI S2 87 9 = gI M2 29 0 := congrFun hw2 9
      have y10 : gI S2 87 10 = gI M2 33 0 := congrFun hw2 10
      have u8 : gI M2 35 1 = wM M2 1 8 := rfl
      have v8 : gI M2 35 0 = wM M2 0 8 := rfl
      have bb1 : fJ6_bitCount_0f7a4 (wM M2 1 8) S2 = some (bitsI (wM M2 1 8)) := X_bits kR.2.1.2.2.1 kR.2.1.2.2.2
      have bb0 : fJ6_bitCount_0f7a4 (wM M2 0 8) S2 = some (bitsI (wM M2 0 8)) := X_bits hk2.2.1.2.2.1 hk2.2.1.2.2.2
      have wo1 := X_wor (x := wM M2 1 8) hX2 ex2 hW.1
      have wo0 := X_wor (x := wM M2 0 8) hX2 ex2 hW.1
      have mo1 : fX11_worthOf 0 (1 : Int32) M2 = _ := M_wor (r := 1) hM2.1 em2 hW.1 (by decide)
      have mo0 : fX11_worthOf 0 (0 : Int32) M2 = _ := M_wor (r := 0) hM2.1 em2 hW.1 (by decide)
      have fo1 := X_fon hX2.1 W95
      have fo0 := X_fon hX2.1 W87
      have go1 : fX11_fondAll 0 (1 : Int32) M2 = _ := M_fon (r := 1) hM2.1 em2 hW.1 (by decide)
      have go0 : fX11_fondAll 0 (0 : Int32) M2 = _ := M_fon (r := 0) hM2.1 em2 hW.1 (by decide)
      rw [wR] at fo1
      rw [hw2] at fo0
      have fd := fon_diff (v := wM M2 1) (w := wM M2 0) hn4.2.2.2.2 (fun j h1 h2 => by rw [b2, m0, passN_40 h1 h2])
      have hiv2 : Inv S2 M2 := ⟨t, T, hv2⟩
      simp only [rx_0_9 hX.1, rx_0_11 hX.1, q1, r1, Option.bind_some, rx_0_4 hX1.1, rx_0_11 hX1.1, a1, b1, rx_told hX2.1, rx_0_9 hX2.1, rx_0_11 hX2.1, mr_45 hM2.1, mr_49 hM2.1, mr_51 hM2.1, lm_29, lm_33, lm_35, show bnd (0 : Int32) 23 = true from rfl, show bnd (1 : Int32) 23 = true from rfl, if_true, show (0 : Int32).toNatClampNeg = 0 from rfl, show (1 : Int32).toNatClampNeg = 1 from rfl, x8, x9, x10, y8, y9, y10, u8, v8, bb1, bb0, wo1, wo0, mo1, mo0, fo1, fo0, go1, go0, M_bits, fd]
      by_cases k0 : z1 = 0
      · rw [if_pos k0, if_pos k0]; exact ⟨_, _, rfl, rfl, rfl, hiv2⟩
      rw [if_neg k0, if_neg k0]
      by_cases k1 : z1 = 1
      · rw [if_pos k1, if_pos k1]; exact ⟨_, _, rfl, rfl, rfl, hiv2⟩
      rw [if_neg k1, if_neg k1]
      by_cases k2 : z1 = 2
      · rw [if_pos k2, if_pos k2]; exact ⟨_, _, rfl, rfl, rfl, hiv2⟩
      rw [if_neg k2, if_neg k2]
      by_cases k3 : z1 = 3
      · rw [if_pos k3, if_pos k3]; exact ⟨_, _, rfl, rfl, rfl, hiv2⟩
      rw [if_neg k3, if_neg k3]
      exact ⟨_, _, rfl, rfl, rfl, hiv2⟩
    · rw [if_neg c2, if_neg c2]; exact ⟨_, _, rfl, rfl, rfl, hiv⟩
  · rw [decide_eq_false hz, if_pos b2i_f]
    rcases hrs_n hz with c | ⟨c1, c2⟩
    · rw [if_pos c]; exact ⟨_, _, rfl, rfl, rfl, hiv⟩
    · rw [if_neg c1, if_pos c2]; exact ⟨_, _, rfl, rfl, rfl, hiv⟩
/-! when -/
theorem when_go {t : Nat} {T : TT} {z : Int32} (hW : WT T) : ∀ (d i fuel h : Nat) (SX SM : MS), 100 = i + d → d < fuel → Iv t T SX SM → wX SX 95 = wM SM 1 → WOK T (wM SM 1) → wM SM 1 3 = nI h → h + d ≤ 20000 →
    ∃ (qX qM : Int32 × MS), fX10_when_29 fuel 0 z (nI i) SX = some qX ∧ fX11_when_23 fuel 0 z (nI i) SM = some qM ∧ qX.1 = qM.1 ∧ Inv qX.2 qM.2 := by
  intro d
  induction d with
  | zero =>
    intro i fuel h SX SM e1 e2 hv hw hk e3 hn
    obtain ⟨f, rfl⟩ : ∃ f, fuel = f + 1 := ⟨fuel - 1, by omega⟩
    unfold fX10_when_29 fX11_when_23
    rw [show i = 100 from by omega, if_pos (by decide), if_pos (by decide)]
    exact ⟨_, _, rfl, rfl, rfl, t, T, hv⟩
  | succ d ih =>
    intro i fuel h SX SM e1 e2 hv hw hk e3 hn
    obtain ⟨f, rfl⟩ : ∃ f, fuel = f + 1 := ⟨fuel - 1, by omega⟩
    obtain ⟨hX, hM, ex, em, -, h57, -⟩ := hv.1
    have hi : ¬ (99 : Int32) < nI i := by rw [show (99 : Int32) = nI 99 from rfl, nI_ltI (by decide) (by omega)]; omega
    have x8 : gI SX 95 8 = wM SM 1 8 := congrFun hw 8
    have u8 : gI SM 35 1 = wM SM 1 8 := rfl
    unfold fX10_when_29 fX11_when_23
    rw [if_neg hi, if_neg hi, rx_0_11 hX.1, rx_0_4 hX.1, x8, mr_51 hM.1, lm_35, show bnd (1 : Int32) 23 = true from rfl, if_pos rfl, show (1 : Int32).toNatClampNeg = 1 from rfl, u8]
    by_cases c : (wM SM 1 8 >>> (z &&& 31)) &&& 1 = 1
    · rw [if_pos c, if_pos c]; exact ⟨_, _, rfl, rfl, rfl, t, T, hv⟩
    · rw [if_neg c, if_neg c]
      obtain ⟨S1, q1, q2, q3⟩ := X_pass (w := 95) hX W95 ex hW (by rw [hw]; exact hk) HW00 (fun hh => absurd hh (by decide))
      obtain ⟨M1, r1, r2, r3, r4⟩ := M_pass (r := 1) (dr := false) hM (by decide) em hW hk h57
      have r1' : fX11_passes 0 (1 : Int32) (0 : Int32) SM = some M1 := r1
      rw [q1, r1', Option.bind_some, Option.bind_some, nI_1]
      rw [hw] at q2
      exact ih (i + 1) f (h + 1) S1 M1 (by omega) (by omega) (hv.run q3 r3) (by rw [q2, r2]) (by rw [r2]; exact WOK_pass hW hk (lt20k e3 hn)) (by rw [r2, pass_3, e3, nI_1]) (by omega)
theorem sim_15 : Sim_15 Inv := by
  intro SX SM z0 ⟨t, T, h⟩
  have hv := h.th
  have hiv : Inv SX (th0 SM) := ⟨t, T, hv⟩
  obtain ⟨hX, hM, ex, em, hW, h57, hE⟩ := hv.1
  have hk := hv.2.1.2.1
  obtain ⟨a, ha, ea⟩ := hour_of hk hv.2.1.2.2
  unfold fX10_when fX11_when
  rw [rx_told hX.1, rt_5 hX.1 hX.1.1, X_isDoing hX (by rw [ex]; exact hW.1), M_isDoing hM.1, ex, em]
  cases decide (0 ≤ z0 ∧ z0 < sc T 3) with
  | false => exact ⟨_, _, rfl, rfl, rfl, hiv⟩
  | true =>
    obtain ⟨S1, M1, q1, r1, hv1, w1, w2, w3, w4, -, -⟩ := run_start hv
    rw [Option.bind_some, if_neg b2i_t, Option.bind_some, if_neg b2i_t, rx_0_11 hX.1, rx_0_9 hX.1, q1, r1, Option.bind_some, Option.bind_some]
    exact when_go hW 100 0 1000 a S1 M1 rfl (by decide) hv1 (by rw [w1, w2]) (by rw [w2]; exact hk) (by rw [w2]; exact ea) (by omega)
/-! chance -/
theorem M_ch_go {n : Nat} {T : TT} {K : Nat → Int32 → Int32 → Int32 → Int32 → Int32 → MS → Option (Int32 × MS)} {x3 x5 x6 : Int32} (hW : WT T) (hn : n < 2 ^ 31) : ∀ (d i fuel h : Nat) (S : MS), n = i + d → d < fuel → MO S → tM S = T → WOK T (wM S 1) → wM S 1 3 = nI h → h + d ≤ 20000 → gI S 0 57 = 0 →
    ∃ S1, fX11_chance_65 K fuel 0 (nI n) x3 x5 x6 (nI i) S = K 0 (nI n) x3 (wM S1 1 11) (if bitsI (wM S1 1 8) < x3 then x5 else x5 + 1) (x6 + 1) S1 ∧ wM S1 1 = passN T 0 true d (wM S 1) ∧ Fr (PM 1) S S1 := by
  intro d
  induction d with
  | zero =>
    intro i fuel h S e1 e2 hX et hk e3 hn ht
    obtain ⟨f, rfl⟩ : ∃ f, fuel = f + 1 := ⟨fuel - 1, by omega⟩
    refine ⟨S, ?_, rfl, Fr.rf⟩
    have u8 : gI S 35 1 = wM S 1 8 := rfl
    have u11 : gI S 28 1 = wM S 1 11 := rfl
    unfold fX11_chance_65 fX11_chance_111
    rw [e1, Nat.add_zero, if_pos (Int32.le_refl _), mr_44 hX.1, mr_51 hX.1, lm_28, lm_35, show bnd (1 : Int32) 23 = true from rfl, if_pos rfl, if_pos rfl, show (1 : Int32).toNatClampNeg = 1 from rfl, u8, u11, M_bits, Option.bind_some, add0]
    split <;> rfl
  | succ d ih =>
    intro i fuel h S e1 e2 hX et hk e3 hn ht
    obtain ⟨f, rfl⟩ : ∃ f, fuel = f + 1 := ⟨fuel - 1, by omega⟩
    have hin : ¬ nI n ≤ nI i := by rw [nI_leI (by omega) (by omega)]; omega
    unfold fX11_chance_65
    obtain ⟨S1, q1, q2, q3, q4⟩ := M_pass (r := 1) (dr := true) hX (by decide) et hW hk ht
    have q1' : fX11_passes 0 (1 : Int32) (1 : Int32) S = some S1 := q1
    rw [if_neg hin, q1', Option.bind_some, nI_1]
    obtain ⟨S2, r1, r2, r3⟩ := ih (i + 1) f (h + 1) S1 (by omega) (by omega) (hX.fr q3) ((MO.told q3).trans et) (by rw [q2]; exact WOK_pass hW hk (lt20k e3 hn)) (by rw [q2, pass_3, e3, nI_1]) (by omega) q4
    exact ⟨S2, r1, by rw [r2, q2]; rfl, q3.tr r3⟩
theorem chance_go {t n a : Nat} {T : TT} {x3 : Int32} {W : Nat → Int32} (hW : WT T) (hn : n ≤ 99) (hk : WOK T W) (ea : W 3 = nI a) (ha : a ≤ 9900) : ∀ (d i fuel : Nat) (x4 x5 : Int32) (SX SM : MS), 10 = i + d → d < fuel → Iv t T SX SM → wM SM 0 = W →
    ∃ (qX qM : Int32 × MS), fX10_chance_36 fuel 0 (nI n) x3 x4 x5 (nI i) SX = some qX ∧ fX11_chance_41 fuel 0 (nI n) x3 x5 x4 (nI i) SM = some qM ∧ qX.1 = qM.1 ∧ Inv qX.2 qM.2 := by
  intro d
  induction d with
  | zero =>
    intro i fuel x4 x5 SX SM e1 e2 hv h0
    obtain ⟨f, rfl⟩ : ∃ f, fuel = f + 1 := ⟨fuel - 1, by omega⟩
    unfold fX10_chance_36 fX11_chance_41
    rw [show i = 10 from by omega, if_pos (by decide), if_pos (by decide)]
    exact ⟨_, _, rfl, rfl, rfl, t, T, hv⟩
  | succ d ih =>
    intro i fuel x4 x5 SX SM e1 e2 hv h0
    obtain ⟨f, rfl⟩ : ∃ f, fuel = f + 1 := ⟨fuel - 1, by omega⟩
    have hi : ¬ (10 : Int32) ≤ nI i := nle (n := 10) (by decide) (by omega)
    obtain ⟨hX, hM, -, -, -, -, -⟩ := hv.1
    obtain ⟨S1, M1, q1, r1, hv1, w1, w2, w3, w4, -, -⟩ := run_start hv
    rw [h0] at w1 w2
    have f95 : Fr (PX 95) S1 (pI S1 95 11 x5) := Fr.rf.pI (Or.inr ⟨by decide, by decide⟩)
    have f1 : Fr (PM 1) M1 (pI M1 28 1 x5) := Fr.rf.pI (PM_w (by decide) (by decide))
    have hv1' := hv1.run f95 f1
    obtain ⟨hX1, hM1, ex1, em1, -, h571, -⟩ := hv1'.1
    have e95 : wX (pI S1 95 11 x5) 95 = up W 11 x5 := by rw [wX_own (by decide) (by decide), w1]
    have em11 : wM (pI M1 28 1 x5) 1 = up W 11 x5 := by rw [show (28 : Nat) = mWc 11 from rfl, wM_own (by decide) (by decide), w2]
    have hku : WOK T (up W 11 x5) := WOK_up hk (by decide)
    have eau : up W 11 x5 3 = nI a := by rw [up_ne (by decide)]; exact ea
    obtain ⟨S2, a1, a2, a3⟩ := X_all (w := 95) (n := n) (h := a) hX1 W95 ex1 hW (by rw [e95]; exact hku) HW10 (by rw [e95]; exact eau) hn (by omega) (fun hh => absurd hh (by decide))
    obtain ⟨M2, b1, b2, b3⟩ := M_ch_go (K := fX11_chance_41 f) (x3 := x3) (x5 := x4) (x6 := nI i) hW (show n < 2 ^ 31 by omega) n 0 1000 a (pI M1 28 1 x5) (Nat.zero_add _).symm (by omega) hM1 em1 (by rw [em11]; exact hku) (by rw [em11]; exact eau) (by omega) h571
    have hv2 := hv1'.run a3 b3
    have b1' : fX11_chance_65 (fX11_chance_41 f) 1000 0 (nI n) x3 x4 (nI i) (0 : Int32) (pI M1 28 1 x5) = _ := b1
    have wR : wX S2 95 = wM M2 1 := by rw [a2, b2, e95, em11]
    obtain ⟨p1, p2⟩ := passN_ok (tw := 0) (dr := true) hW n a (up W 11 x5) hku eau (by omega)
    have kR : WOK T (wM M2 1) := by rw [b2, em11]; exact p1
    have x8 : gI S2 95 8 = wM M2 1 8 := congrFun wR 8
    have x11 : gI S2 95 11 = wM M2 1 11 := congrFun wR 11
    have bb : fJ6_bitCount_0f7a4 (wM M2 1 8) S2 = some (bitsI (wM M2 1 8)) := X_bits kR.2.1.2.2.1 kR.2.1.2.2.2
    have h02 : wM M2 0 = W := by rw [Fr.wldM b3 (by decide), show (28 : Nat) = mWc 11 from rfl, wM_r (r := 1) (q := 0) (j := 11) (by decide) (by decide) (by decide), w4, h0]
    unfold fX10_chance_36 fX11_chance_41 fX10_chance_102
    simp only [hi, if_false, rx_0_9 hX.1, rx_0_11 hX.1, q1, r1, Option.bind_some, gR_pI, rx_0_4 hv1.1.1.1, rx_0_11 hv1.1.1.1, a1, mr_44 hv1.1.2.1.1, lm_28, show bnd (1 : Int32) 23 = true from rfl, if_true, show (1 : Int32).toNatClampNeg = 1 from rfl, b1', rx_0_11 hv2.1.1.1, x8, x11, bb, nI_1]
    have := fun y => ih (i + 1) f y (wM M2 1 11) S2 M2 (by omega) (by omega) hv2 h02
    split
    · exact this x4
    · exact this (x4 + 1)
theorem sim_27 : Sim_27 Inv := by
  intro SX SM z0 z1 z2 ⟨t, T, h⟩
  have hv := h.th
  have hiv : Inv SX (th0 SM) := ⟨t, T, hv⟩
  obtain ⟨hX, hM, ex, em, hW, h57, hE⟩ := hv.1
  have hk := hv.2.1.2.1
  obtain ⟨a, ha, ea⟩ := hour_of hk hv.2.1.2.2
  unfold fX10_chance fX11_chance
  by_cases c1 : z0 < 0
  · rw [if_pos c1, if_pos c1]; exact ⟨_, _, rfl, rfl, rfl, hiv⟩
  rw [if_neg c1, if_neg c1]
  by_cases c2 : z1 < 1
  · rw [if_pos c2, if_pos c2]; exact ⟨_, _, rfl, rfl, rfl, hiv⟩
  rw [if_neg c2, if_neg c2]
  by_cases c3 : 99 < z1
  · rw [if_pos c3, if_pos c3]; exact ⟨_, _, rfl, rfl, rfl, hiv⟩
  rw [if_neg c3, if_neg c3]
  by_cases c4 : z2 < 0
  · rw [if_pos c4, if_pos c4]; exact ⟨_, _, rfl, rfl, rfl, hiv⟩
  rw [if_neg c4, if_neg c4]
  by_cases c5 : z2 ≤ 8
  · rw [if_pos c5, if_pos c5]
    have c6 : 0 ≤ z1 ∧ z1 ≤ 99 := by grind
    obtain ⟨n, hn, rfl⟩ := hours_of c6
    exact chance_go hW hn hk ea ha 10 0 1000 0 z0 SX (th0 SM) rfl (by decide) hv rfl
  · rw [if_neg c5, if_neg c5]; exact ⟨_, _, rfl, rfl, rfl, hiv⟩
/-! tried -/
def QT (o j : Nat) : Prop := QM o j ∨ (o = 0 ∧ j = 57)
theorem QT_Q {S S1 : MS} (f : Fr QT S S1) (h : gI S1 0 57 = gI S 0 57) : Fr QM S S1 := by
  refine ⟨f.1, fun o j hn => ?_⟩
  by_cases c : o = 0 ∧ j = 57
  · obtain ⟨rfl, rfl⟩ := c; exact h
  · exact f.2 _ _ (fun hq => hq.elim hn c)
theorem MO.pT {S : MS} {v : Int32} (h : MO S) : MO (pI S 0 57 v) := h.of rfl (fun o j a b => gI_neo (by omega))
theorem tM_pT {S : MS} {v : Int32} : tM (pI S 0 57 v) = tM S := Fr.toldM (P := QT) (Fr.rf.pI (Or.inr ⟨rfl, rfl⟩)) (fun o j a b hp => by unfold QT QM at hp; omega)
theorem PM1_T : ∀ o j, PM 1 o j → QT o j := fun o j h => Or.inl (PM1_Q o j h)
theorem try_go {t n a : Nat} {T : TT} {how tw : Int32} {W : Nat → Int32} {SX SM : MS} (hv : Iv t T SX SM) (hn : n ≤ 99) (hk : WOK T W) (ea : W 3 = nI a) (ha : a ≤ 9900) (hx : wX SX 95 = W) (hm : wM SM 1 = W) (hh : HW how tw false) (h4 : tw = 4 → W 6 < 9) :
    ∃ (qX qM : Int32 × MS), fX10_tried_146 0 (nI n) how SX = some qX ∧ fX11_tried_92 0 tw (nI n) SM = some qM ∧ qX.1 = qM.1 ∧ Inv qX.2 qM.2 := by
  obtain ⟨hX, hM, ex, em, hW, h57, hE⟩ := hv.1
  obtain ⟨S2, a1, a2, a3⟩ := X_all (w := 95) (n := n) (h := a) hX W95 ex hW (by rw [hx]; exact hk) hh (by rw [hx]; exact ea) hn (by omega) (fun c => by rw [hx]; exact h4 c)
  have wp : wM (pI SM 0 57 tw) 1 = W := by rw [wM_ne (by omega)]; exact hm
  obtain ⟨M2, b1, b2, b3, b4⟩ := M_on (n := n) (h := a) (hM.pT (v := tw)) (tM_pT.trans em) hW (by rw [wp]; exact hk) (by rw [wp]; exact ea) hn (by omega) gI_same
  have f3 : Fr QT SM (pI M2 0 57 0) := ((Fr.rf.pI (Or.inr ⟨rfl, rfl⟩)).tr (b3.mo PM1_T)).pI (Or.inr ⟨rfl, rfl⟩)
  have fm : Fr QM SM (pI M2 0 57 0) := QT_Q f3 (by rw [gI_same, h57])
  have e0 : wM (pI M2 0 57 0) 0 = wM SM 0 := by rw [wM_ne (by omega), Fr.wldM b3 (by decide), wM_ne (by omega)]
  have hv2 : Iv t T S2 (pI M2 0 57 0) := hv.quiet (a3.mo PX95_Q) (Fr.wld a3 (fun o j a b hp => by unfold PX at hp; omega)) fm e0
  obtain ⟨hX2, hM2, ex2, em2, -, -, -⟩ := hv2.1
  have wR : wX S2 95 = wM (pI M2 0 57 0) 1 := by rw [a2, hx, wM_ne (by omega), b2, wp]
  have x8 : gI S2 95 8 = wM (pI M2 0 57 0) 1 8 := congrFun wR 8
  have y8 : gI S2 87 8 = wM (pI M2 0 57 0) 0 8 := congrFun hv2.2.1.1 8
  have mo1 : fX11_worthOf 0 (1 : Int32) (pI M2 0 57 0) = _ := M_wor (r := 1) hM2.1 em2 hW.1 (by decide)
  have mo0 : fX11_worthOf 0 (0 : Int32) (pI M2 0 57 0) = _ := M_wor (r := 0) hM2.1 em2 hW.1 (by decide)
  unfold fX10_tried_146 fX11_tried_92
  simp only [rx_0_4 hX.1, rx_0_11 hX.1, a1, b1, Option.bind_some, rx_told hX2.1, rx_0_9 hX2.1, rx_0_11 hX2.1, x8, y8, X_wor hX2 ex2 hW.1, mo1, mo0]
  exact ⟨_, _, rfl, rfl, rfl, t, T, hv2⟩
theorem i5_r {z : Int32} (h1 : ¬ z < 0) (h2 : ¬ 5 < z) : z = 0 ∨ z = 1 ∨ z = 2 ∨ z = 3 ∨ z = 4 ∨ z = 5 := by
  obtain ⟨n, hn, rfl⟩ := nI_of h1
  have h3 : n ≤ 5 := by rw [show (5 : Int32) = nI 5 from rfl, nI_ltI (by decide) hn] at h2; omega
  rcases (by omega : n = 0 ∨ n = 1 ∨ n = 2 ∨ n = 3 ∨ n = 4 ∨ n = 5) with rfl | rfl | rfl | rfl | rfl | rfl <;> simp [nI] <;> decide
set_option maxRecDepth 100000 in
theorem off_dec : ∀ x, x < 16 → ∀ i, i < 4 → 0 ≤ (nI x &&& (((1 : Int32) <<< (nI i &&& 31)) ^^^ (-1))) ∧ (nI x &&& (((1 : Int32) <<< (nI i &&& 31)) ^^^ (-1))) < 16 := by decide +kernel
theorem sim_28 : Sim_28 Inv := by
  intro SX SM z0 z1 z2 ⟨t, T, h⟩
  have hv := h.th
  have hiv : Inv SX (th0 SM) := ⟨t, T, hv⟩
  obtain ⟨hX, hM, ex, em, hW, h57, hE⟩ := hv.1
  have hk := hv.2.1.2.1
  have hC := hW.1
  have hnq := nq_le hC
  obtain ⟨a, ha, ea⟩ := hour_of hk hv.2.1.2.2
  obtain ⟨S1, M1, q1, r1, hv1, w1, w2, w3, w4, -, -⟩ := run_start hv
  obtain ⟨hX1, hM1, ex1, em1, -, h571, -⟩ := hv1.1
  unfold fX10_tried fX11_tried fX11_tried_35
  rw [X_hours, rx_told hX.1, rt_3 hX.1 hX.1.1, X_isLamp hX (by rw [ex]; exact hC), M_isLamp hM.1, ex, em]
  have no36 : ∀ x, fX11_tried_36 0 x z1 z2 0 (th0 SM) = some (-1, th0 SM) := fun x => by unfold fX11_tried_36; rw [if_pos rfl]
  by_cases c1 : z0 < 0
  · rw [if_pos c1, if_neg (by rintro rfl; exact absurd c1 (by decide)), if_pos c1, no36]; exact ⟨_, _, rfl, rfl, rfl, hiv⟩
  rw [if_neg c1]
  by_cases c2 : 5 < z0
  · rw [if_pos c2, if_neg (by rintro rfl; exact absurd c2 (by decide)), if_neg c1, if_pos c2, no36]; exact ⟨_, _, rfl, rfl, rfl, hiv⟩
  rw [if_neg c2, if_neg c1, if_neg c2, Option.bind_some]
  by_cases hz : 0 ≤ z2 ∧ z2 ≤ 99
  · rw [decide_eq_true hz, if_neg b2i_t]
    obtain ⟨n, hn, rfl⟩ := hours_of hz
    have n99 : nI n ≤ 99 := hz.2
    have go36 : ∀ x y : Int32, fX11_tried_36 0 x z1 (nI n) 1 (th0 SM) = (if x = (2 : Int32) then fX11_tried_80 0 x (nI n) (pI M1 34 1 ((gI M1 34 1) &&& (((1 : Int32) <<< (z1 &&& 31)) ^^^ (-1 : Int32)))) else fX11_tried_80 0 x (nI n) M1) := fun x y => by
      unfold fX11_tried_36
      rw [if_neg one0, if_neg (nI_pos (by omega)), if_pos n99, r1, Option.bind_some, mr_50 hM1.1, lm_34, show bnd (1 : Int32) 23 = true from rfl, if_pos rfl, if_pos rfl, show (1 : Int32).toNatClampNeg = 1 from rfl]
    have go44 : ∀ x : Int32, fX10_tried_44 0 x z1 (nI n) SX = (if x = (1 : Int32) then fX10_tried_146 0 (nI n) (2 : Int32) S1 else if x = (2 : Int32) then fX10_tried_146 0 (nI n) (0 : Int32) (pI S1 95 7 ((gI S1 95 7) &&& (((1 : Int32) <<< (z1 &&& 31)) ^^^ (-1 : Int32)))) else if x = (3 : Int32) then fX10_tried_146 0 (nI n) (4 : Int32) S1 else if x = (4 : Int32) then fX10_tried_146 0 (nI n) (8 : Int32) (pI S1 95 6 (0 : Int32)) else if x = (5 : Int32) then fX10_tried_146 0 (nI n) (16 : Int32) S1 else fX10_tried_146 0 (nI n) (0 : Int32) S1) := fun x => by
      unfold fX10_tried_44
      rw [rx_0_11 hX.1, rx_0_9 hX.1, q1, Option.bind_some, rx_0_11 hX1.1]
    have t80 : ∀ (x : Int32) (M : MS), x ≠ 4 → fX11_tried_80 0 x (nI n) M = fX11_tried_92 0 x (nI n) M := fun x M hx => by unfold fX11_tried_80; rw [if_neg hx]
    rcases i5_r c1 c2 with rfl | rfl | rfl | rfl | rfl | rfl
    · rw [if_neg (show ¬ (0 : Int32) = 2 by decide), if_neg (show ¬ (0 : Int32) = 2 by decide), go44, go36 0 0, no36]
      by_cases k : z1 = 0
      · rw [if_pos k, if_pos k]
        exact try_go hv1 hn hk ea ha w1 w2 HW00 (fun hh => absurd hh (by decide))
      · rw [if_neg k, if_neg k]; exact ⟨_, _, rfl, rfl, rfl, hiv⟩
    · rw [if_neg (show ¬ (1 : Int32) = 2 by decide), if_neg (show ¬ (1 : Int32) = 2 by decide), go44, go36 1 0, no36]
      by_cases k : z1 = 0
      · rw [if_pos k, if_pos k]
        exact try_go hv1 hn hk ea ha w1 w2 HW21 (fun hh => absurd hh (by decide))
      · rw [if_neg k, if_neg k]; exact ⟨_, _, rfl, rfl, rfl, hiv⟩
    · rw [if_pos rfl, if_pos rfl, go44]
      by_cases hl : 0 ≤ z1 ∧ z1 < sc T 1
      · rw [decide_eq_true hl, Option.bind_some, if_neg b2i_t, Option.bind_some, show b2i true = 1 from rfl, go36 2 0, if_neg (by decide), if_pos rfl, if_pos rfl, t80 _ _ (by decide)]
        obtain ⟨i, hi, -, rfl⟩ := idx_of hC (by decide) hl
        have g7 : gI S1 95 7 = wM (th0 SM) 0 7 := congrFun w1 7
        have k7 : gI M1 34 1 = wM (th0 SM) 0 7 := congrFun w2 7
        rw [g7, k7]
        obtain ⟨x, hx, e7⟩ := nI_of (Int32.not_lt.mpr hk.2.1.1)
        have hx16 : x < 16 := by have := hk.2.1.2.1; rw [e7, show (16 : Int32) = nI 16 from rfl, nI_ltI hx (by decide)] at this; exact this
        have hd := off_dec x hx16 i (by omega)
        rw [← e7] at hd
        have f95 : Fr (PX 95) S1 (pI S1 95 7 (wM (th0 SM) 0 7 &&& (((1 : Int32) <<< (nI i &&& 31)) ^^^ (-1 : Int32)))) := Fr.rf.pI (Or.inr ⟨by decide, by decide⟩)
        have f1 : Fr (PM 1) M1 (pI M1 34 1 (wM (th0 SM) 0 7 &&& (((1 : Int32) <<< (nI i &&& 31)) ^^^ (-1 : Int32)))) := Fr.rf.pI (PM_w (by decide) (by decide))
        exact try_go (hv1.run f95 f1) hn (WOK_7 hk hd.1 hd.2) (by rw [up_ne (by decide)]; exact ea) ha (by rw [wX_own (by decide) (by decide), w1]) (by rw [show (34 : Nat) = mWc 7 from rfl, wM_own (by decide) (by decide), w2]) HW02 (fun hh => absurd hh (by decide))
      · rw [decide_eq_false hl, Option.bind_some, if_pos b2i_f, Option.bind_some, b2i_f, no36]; exact ⟨_, _, rfl, rfl, rfl, hiv⟩
    · rw [if_neg (show ¬ (3 : Int32) = 2 by decide), if_neg (show ¬ (3 : Int32) = 2 by decide), go44, go36 3 0, no36]
      by_cases k : z1 = 0
      · rw [if_pos k, if_pos k]
        exact try_go hv1 hn hk ea ha w1 w2 HW43 (fun hh => absurd hh (by decide))
      · rw [if_neg k, if_neg k]; exact ⟨_, _, rfl, rfl, rfl, hiv⟩
    · rw [if_neg (show ¬ (4 : Int32) = 2 by decide), if_neg (show ¬ (4 : Int32) = 2 by decide), go44, go36 4 0, no36]
      by_cases k : z1 = 0
      · rw [if_pos k, if_pos k, if_neg (by decide), if_neg (by decide), if_neg (by decide), if_pos rfl, if_neg (by decide)]
        unfold fX11_tried_80
        rw [if_pos rfl, mr_48 hM1.1, lm_32, show bnd (1 : Int32) 23 = true from rfl, if_pos rfl, show (1 : Int32).toNatClampNeg = 1 from rfl]
        have f95 : Fr (PX 95) S1 (pI S1 95 6 0) := Fr.rf.pI (Or.inr ⟨by decide, by decide⟩)
        have f1 : Fr (PM 1) M1 (pI M1 32 1 0) := Fr.rf.pI (PM_w (by decide) (by decide))
        exact try_go (W := up (wM (th0 SM) 0) 6 0) (hv1.run f95 f1) hn (WOK_up hk (by decide)) (by rw [up_ne (by decide)]; exact ea) ha (by rw [wX_own (by decide) (by decide), w1]) (by rw [show (32 : Nat) = mWc 6 from rfl, wM_own (by decide) (by decide), w2]) HW84 (fun _ => by rw [up_same]; decide)
      · rw [if_neg k, if_neg k]; exact ⟨_, _, rfl, rfl, rfl, hiv⟩
    · rw [if_neg (show ¬ (5 : Int32) = 2 by decide), if_neg (show ¬ (5 : Int32) = 2 by decide), go44, go36 5 0, no36]
      by_cases k : z1 = 0
      · rw [if_pos k, if_pos k]
        exact try_go hv1 hn hk ea ha w1 w2 HW165 (fun hh => absurd hh (by decide))
      · rw [if_neg k, if_neg k]; exact ⟨_, _, rfl, rfl, rfl, hiv⟩
  · rw [decide_eq_false hz, if_pos b2i_f]
    have nn : ∀ x y, fX11_tried_36 0 x z1 z2 y (th0 SM) = some (-1, th0 SM) := fun x y => by
      unfold fX11_tried_36
      by_cases cy : y = 0
      · rw [if_pos cy]
      · rw [if_neg cy]
        rcases hrs_n hz with c | ⟨c1, c2⟩
        · rw [if_pos c]
        · rw [if_neg c1, if_neg (Int32.not_le.mpr c2)]
    simp only [nn, Option.bind_some]
    refine ⟨_, (-1, th0 SM), rfl, ?_, rfl, hiv⟩
    split
    · rfl
    · split <;> rfl
