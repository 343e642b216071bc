/-! ===== undoing, images, hours by call ===== -/
theorem sim_29 : Sim_29 Inv := by
  intro SX SM ⟨t, T, h⟩
  have hv := h.th
  have hiv : Inv SX (th0 SM) := ⟨t, T, hv⟩
  obtain ⟨hX, hM, ex, em, hW, h57, hE⟩ := hv.1
  have hw := hv.2.1.1
  have hh3 := hv.2.1.2.2
  obtain ⟨n, hn, l1, l2, l3⟩ := hv.2.2.2.1
  unfold fX10_undo fX11_undo fX2_takeBack
  rw [rx_0_7 hX.1, rx_0_9 hX.1, l1, l2]
  match n, hn, l1, l2, l3 with
  | 0, hn, l1, l2, l3 => exact ⟨_, _, rfl, rfl, rfl, hiv⟩
  | n + 1, hn, l1, l2, l3 =>
    have hp : (0 : Int32) < nI (n + 1) := nI_lt (a := 0) (by omega) (by omega)
    have hne : ¬ nI (n + 1) = 0 := by rw [show (0 : Int32) = nI 0 from rfl, nI_eq (by omega) (by decide)]; omega
    have hL := l3 n (by omega)
    obtain ⟨g4, g5, g6, g7, g8, gf, gk⟩ := hL
    rw [if_pos hp, if_neg hne]
    have em5 : nI n * 5 = nI (5 * n) := by rw [show (5 : Int32) = nI 5 from rfl, nI_mul, Nat.mul_comm]
    have a1 : nI (5 * n) + 1 = nI (5 * n + 1) := nI_add _ 1
    have a2 : nI (5 * n) + 2 = nI (5 * n + 2) := nI_add _ 2
    have a3 : nI (5 * n) + 3 = nI (5 * n + 3) := nI_add _ 3
    have a4 : nI (5 * n) + 4 = nI (5 * n + 4) := nI_add _ 4
    have bb : ∀ k, k < 5 → bnd (nI (5 * n + k)) 100 = true := fun k hk => bnd_nI (by omega) (by decide)
    have cc : ∀ k, k < 5 → (nI (5 * n + k)).toNatClampNeg = 5 * n + k := fun k hk => nI_clamp (by omega)
    have b0 : bnd (nI (5 * n)) 100 = true := bb 0 (by decide)
    have c0 : (nI (5 * n)).toNatClampNeg = 5 * n := cc 0 (by decide)
    have n1 : (82 : Nat) ≠ 87 := by decide
    have n2 : (82 : Nat) ≠ 81 := by decide
    have n3 : (81 : Nat) ≠ 87 := by decide
    unfold fX2_takeBack_36 fX2_takeBack_60 fX2_takeBack_84
    simp only [gR_pI, nI_pred, gI_same, rx_81_0 hX.1, lx_82, em5, a1, a2, a3, a4, b0, c0, bb 1 (by decide), bb 2 (by decide), bb 3 (by decide), bb 4 (by decide), cc 1 (by decide), cc 2 (by decide), cc 3 (by decide), cc 4 (by decide), if_true, gI_neo n1, gI_neo n2, gI_neo n3, Option.bind_some, g4, g5, g6, g7, g8]
    have hr : MR (pI (th0 SM) 0 56 (nI n)) := hM.1.of rfl
    obtain ⟨M1, r1, r2, r3⟩ := M_copies (a := 0) (b := 3 + n) hr (by decide) (by omega) (by omega)
    have r1' : fX11_copies 0 (0 : Int32) (nI (3 + n)) (pI (th0 SM) 0 56 (nI n)) = some M1 := r1
    rw [show (3 : Int32) + nI n = nI (3 + n) from nI_add 3 n, r1', Option.bind_some]
    have e56 : gI M1 0 56 = nI n := by rw [r3.2 _ _ (fun hp => by unfold PMw at hp; omega)]; exact gI_same
    rw [wM_ne (by omega)] at r2
    have fm0 : Fr PNM (th0 SM) (pI (th0 SM) 0 56 (nI n)) := Fr.rf.pI (Or.inl ⟨rfl, rfl⟩)
    have fm : Fr HM (th0 SM) M1 := (fm0.mo PNM_H).tr (r3.mo (fun o j hp => PM0_H o j (PMw_M o j hp)))
    have wk : ∀ k, k < n → wM M1 (3 + k) = wM (th0 SM) (3 + k) := fun k hk => by rw [PMw_wM r3 (by omega), wM_ne (by omega)]
    refine ⟨_, _, rfl, rfl, e56.symm, t, T, hv.move ?_ fm ?_ ?_⟩
    · exact (((((Fr.rf.pI (Or.inr (Or.inl ⟨rfl, rfl⟩))).pI (PX87_H _ _ (Or.inr ⟨by decide, by decide⟩))).pI (PX87_H _ _ (Or.inr ⟨by decide, by decide⟩))).pI (PX87_H _ _ (Or.inr ⟨by decide, by decide⟩))).pI (PX87_H _ _ (Or.inr ⟨by decide, by decide⟩))).pI (PX87_H _ _ (Or.inr ⟨by decide, by decide⟩))
    · refine ⟨?_, by rw [r2]; exact gk, by rw [r2, gf 3 (by decide)]; exact hh3⟩
      rw [wX_own (by decide) (by decide), wX_own (by decide) (by decide), wX_own (by decide) (by decide), wX_own (by decide) (by decide), wX_own (by decide) (by decide), wX_ne (by decide), hw, r2]
      funext f
      unfold up
      by_cases c8 : f = 8
      · subst c8; rfl
      · rw [if_neg c8]
        by_cases c7 : f = 7
        · subst c7; rfl
        · rw [if_neg c7]
          by_cases c6 : f = 6
          · subst c6; rfl
          · rw [if_neg c6]
            by_cases c5 : f = 5
            · subst c5; rfl
            · rw [if_neg c5]
              by_cases c4 : f = 4
              · subst c4; rfl
              · rw [if_neg c4]; exact (gf f (by omega)).symm
    · refine ⟨n, by omega, ?_, e56, fun k hk => ?_⟩
      · rw [gI_neo (by decide), gI_neo (by decide), gI_neo (by decide), gI_neo (by decide), gI_neo (by decide), gI_same]
      · obtain ⟨k4, k5, k6, k7, k8, kf, kk⟩ := l3 k (by omega)
        unfold LN
        rw [wk k hk]
        have e82 : ∀ (S : MS) (a b c d e f : Int32) (j : Nat), gI (pI (pI (pI (pI (pI (pI S 81 1 a) 87 4 b) 87 5 c) 87 6 d) 87 7 e) 87 8 f) 82 j = gI S 82 j := fun S a b c d e f j => by
          rw [gI_neo n1, gI_neo n1, gI_neo n1, gI_neo n1, gI_neo n1, gI_neo n2]
        rw [e82, e82, e82, e82, e82]
        exact ⟨k4, k5, k6, k7, k8, fun f hf => by rw [kf f hf, r2, gf f hf], kk⟩
def kX (o j : Nat) : Prop := PX 91 o j ∨ (o = 0 ∧ j = 15)
def kM (o j : Nat) : Prop := PMw 2 o j ∨ (o = 0 ∧ j = 55)
theorem sim_30 : Sim_30 Inv := by
  intro SX SM ⟨t, T, h⟩
  have hv := h.th
  obtain ⟨h1, h2, h3, h4, h5, h6, h7⟩ := hv
  obtain ⟨hX, hM, ex, em, hW, h57, hE⟩ := h1
  obtain ⟨S1, q1, q2, q3⟩ := X_become hX.1 W91 W87 (by decide)
  obtain ⟨M1, r1, r2, r3⟩ := M_copies (a := 2) (b := 0) hM.1 (by decide) (by decide) (by decide)
  have r1' : fX11_copies 0 (2 : Int32) (0 : Int32) (th0 SM) = some M1 := r1
  have fx : Fr kX SX (pI S1 0 15 1) := (q3.mo (fun o j hp => Or.inl hp)).pI (Or.inr ⟨rfl, rfl⟩)
  have fm : Fr kM (th0 SM) (pI M1 0 55 1) := (r3.mo (fun o j hp => Or.inl hp)).pI (Or.inr ⟨rfl, rfl⟩)
  have e87 : wX (pI S1 0 15 1) 87 = wX SX 87 := Fr.wld fx (fun o j a b hp => by unfold kX PX at hp; omega)
  have e91 : wX (pI S1 0 15 1) 91 = wX SX 87 := by rw [wX_ne (by decide)]; exact q2
  have m0 : wM (pI M1 0 55 1) 0 = wM (th0 SM) 0 := by rw [wM_ne (by omega), PMw_wM r3 (by decide)]
  have m2 : wM (pI M1 0 55 1) 2 = wM (th0 SM) 0 := by rw [wM_ne (by omega)]; exact r2
  unfold fX10_keep fX11_keep
  rw [rx_0_10 hX.1, rx_0_9 hX.1, q1, r1']
  simp only [Option.bind_some, gR_pI, rx_0_9 (hX.1.of q3.1), mr_43 (hM.1.of r3.1), lm_27, show bnd (0 : Int32) 23 = true from rfl, if_true, show (0 : Int32).toNatClampNeg = 0 from rfl]
  have e3 : gI (pI S1 0 15 1) 87 3 = gI (pI M1 0 55 1) 27 0 := by
    have := congrFun (e87.trans (h2.1.trans m0.symm)) 3; exact this
  refine ⟨_, _, rfl, rfl, e3, t, T, ?_, ?_, ?_, ?_, ?_, ?_, ?_⟩
  · exact CR.fr ⟨hX, hM, ex, em, hW, h57, hE⟩ (fx.mo (fun o j hp => by unfold kX PX at hp; unfold cX; omega)) (fm.mo (fun o j hp => by unfold kM PMw at hp; unfold cM; omega))
  · unfold NW; rw [e87, m0]; exact h2
  · exact ⟨true, gI_same, gI_same, fun _ => by rw [e91, m2]; exact h2⟩
  · exact h4.fr (fx.mo (fun o j hp => by unfold kX PX at hp; unfold lX; omega)) (fm.mo (fun o j hp => by unfold kM PMw at hp; unfold lM; omega)) (fun f _ => by rw [m0])
  · exact h5.fr (fx.mo (fun o j hp => by unfold kX PX at hp; unfold sX; omega)) (fm.mo (fun o j hp => by unfold kM PMw at hp; unfold sM; omega))
  · exact h6.fr (fx.mo (fun o j hp => by unfold kX PX at hp; unfold tpX; omega)) (fm.mo (fun o j hp => by unfold kM PMw at hp; unfold tpM; omega))
  · exact h7.fr (fx.mo (fun o j hp => by unfold kX PX at hp; unfold ftX; omega)) (fm.mo (fun o j hp => by unfold kM PMw at hp; unfold ftM; omega))
theorem LG0 {T : TT} {SX SM : MS} (h1 : gI SX 81 1 = 0) (h2 : gI SM 0 56 = 0) : LG T SX SM := ⟨0, by decide, h1, h2, fun k hk => by omega⟩
theorem sim_31 : Sim_31 Inv := by
  intro SX SM ⟨t, T, h⟩
  have hv := h.th
  obtain ⟨hX, hM, ex, em, hW, h57, hE⟩ := hv.1
  obtain ⟨b, i1, i2, i3⟩ := hv.2.2.1
  unfold fX10_back fX11_back
  rw [i1, i2]
  cases b with
  | false => rw [if_pos b2i_f, if_pos b2i_f]; exact ⟨_, _, rfl, rfl, rfl, t, T, hv⟩
  | true =>
    obtain ⟨j1, j2, j3⟩ := i3 rfl
    obtain ⟨S1, q1, q2, q3⟩ := X_become hX.1 W87 W91 (by decide)
    obtain ⟨M1, r1, r2, r3⟩ := M_copies (a := 0) (b := 2) hM.1 (by decide) (by decide) (by decide)
    have r1' : fX11_copies 0 (0 : Int32) (2 : Int32) (th0 SM) = some M1 := r1
    rw [if_neg b2i_t, if_neg b2i_t, rx_0_10 hX.1, rx_0_9 hX.1, q1, r1']
    unfold fX2_forget
    simp only [Option.bind_some, gR_pI, rx_0_7 (hX.1.of q3.1), rx_0_9 (hX.1.of q3.1), mr_43 (hM.1.of r3.1), lm_27, show bnd (0 : Int32) 23 = true from rfl, if_true, show (0 : Int32).toNatClampNeg = 0 from rfl]
    have ea : wX (pI S1 81 1 0) 87 = wX SX 91 := by rw [wX_ne (by decide), q2]
    have eb : wM (pI M1 0 56 0) 0 = wM (th0 SM) 2 := by rw [wM_ne (by omega), r2]
    have e3 : gI (pI S1 81 1 0) 87 3 = gI (pI M1 0 56 0) 27 0 := by
      have := congrFun (ea.trans (j1.trans eb.symm)) 3; exact this
    refine ⟨_, _, rfl, rfl, e3, t, T, hv.move ((q3.mo PX87_H).pI (Or.inr (Or.inl ⟨rfl, rfl⟩))) ((r3.mo (fun o j hp => PM0_H o j (PMw_M o j hp))).pI (Or.inr (Or.inl ⟨rfl, rfl⟩))) ?_ (LG0 gI_same gI_same)⟩
    unfold NW; rw [ea, eb]; exact ⟨j1, j2, j3⟩
/-! hours -/
theorem M_go_go {n : Nat} {T : TT} (hW : WT T) (hn : n < 2 ^ 31) : ∀ (d i fuel h : Nat) (S : MS), n = i + d → d < fuel → MO S → tM S = T → WOK T (wM S 0) → wM S 0 3 = nI h → h + d ≤ 20000 → gI S 0 57 = 0 →
    ∃ S1, fX11_go_42 fuel 0 (nI n) (nI i) S = some (gI S1 27 0, S1) ∧ wM S1 0 = passN T 0 true d (wM S 0) ∧ Fr (PM 0) S S1 := by
  intro d
  induction d with
  | zero =>
    intro i fuel h S e1 e2 hX et hk e3 hn ht
    obtain ⟨f, rfl⟩ : ∃ f, fuel = f + 1 := ⟨fuel - 1, by omega⟩
    refine ⟨S, ?_, rfl, Fr.rf⟩
    unfold fX11_go_42
    rw [e1, Nat.add_zero, if_pos (Int32.le_refl _), mr_43 hX.1, lm_27, show bnd (0 : Int32) 23 = true from rfl, if_pos rfl]; rfl
  | succ d ih =>
    intro i fuel h S e1 e2 hX et hk e3 hn ht
    obtain ⟨f, rfl⟩ : ∃ f, fuel = f + 1 := ⟨fuel - 1, by omega⟩
    have hin : ¬ nI n ≤ nI i := by rw [nI_leI (by omega) (by omega)]; omega
    unfold fX11_go_42
    obtain ⟨S1, q1, q2, q3, q4⟩ := M_pass (r := 0) (dr := true) hX (by decide) et hW hk ht
    have q1' : fX11_passes 0 (0 : Int32) (1 : Int32) S = some S1 := q1
    rw [if_neg hin, q1', Option.bind_some, nI_1]
    obtain ⟨S2, r1, r2, r3⟩ := ih (i + 1) f (h + 1) S1 (by omega) (by omega) (hX.fr q3) ((MO.told q3).trans et) (by rw [q2]; exact WOK_pass hW hk (lt20k e3 hn)) (by rw [q2, pass_3, e3, nI_1]) (by omega) q4
    exact ⟨S2, r1, by rw [r2, q2]; rfl, q3.tr r3⟩
theorem X_hours {z : Int32} {S : MS} : fX10_areHours z S = some (b2i (decide (0 ≤ z ∧ z ≤ 99))) := by
  unfold fX10_areHours b2i; grind
theorem hours_of {z : Int32} (h : 0 ≤ z ∧ z ≤ 99) : ∃ n, n ≤ 99 ∧ z = nI n := by
  obtain ⟨n, hn, rfl⟩ := nI_of (Int32.not_lt.mpr h.1)
  have := h.2
  rw [show (99 : Int32) = nI 99 from rfl, nI_leI hn (by decide)] at this
  exact ⟨n, this, rfl⟩
theorem hour_of {T : TT} {w : Nat → Int32} (hk : WOK T w) (h : w 3 ≤ 9900) : ∃ a, a ≤ 9900 ∧ w 3 = nI a := by
  obtain ⟨a, ha, e⟩ := nI_of (Int32.not_lt.mpr hk.2.2.1)
  rw [e, show (9900 : Int32) = nI 9900 from rfl, nI_leI ha (by decide)] at h
  exact ⟨a, h, e⟩
theorem hrs_n {z : Int32} (h : ¬ (0 ≤ z ∧ z ≤ 99)) : z < 0 ∨ (¬ z < 0 ∧ 99 < z) := by grind
theorem sim_13 : Sim_13 Inv := by
  intro SX SM z0 ⟨t, T, h⟩
  have hv := h.th
  obtain ⟨hX, hM, ex, em, hW, h57, hE⟩ := hv.1
  have hw := hv.2.1.1
  have hk := hv.2.1.2.1
  obtain ⟨a, ha, ea⟩ := hour_of hk hv.2.1.2.2
  have w3 : gI SX 87 3 = nI a := (congrFun hw 3).trans ea
  have m3 : gI (th0 SM) 27 0 = nI a := ea
  unfold fX10_go fX11_go
  rw [X_hours, Option.bind_some, rx_0_9 hX.1, w3]
  by_cases hz : 0 ≤ z0 ∧ z0 ≤ 99
  · rw [decide_eq_true hz, if_neg b2i_t]
    obtain ⟨n, hn, rfl⟩ := hours_of hz
    rw [if_neg (nI_pos (by omega)), if_neg (Int32.not_lt.mpr hz.2), mr_43 hM.1, lm_27, show bnd (0 : Int32) 23 = true from rfl, if_pos rfl, show (0 : Int32).toNatClampNeg = 0 from rfl, m3, nI_add]
    by_cases c : nI (a + n) ≤ 9900
    · rw [if_pos c, if_pos c]
      have hc : a + n ≤ 9900 := by rw [show (9900 : Int32) = nI 9900 from rfl, nI_leI (by omega) (by decide)] at c; exact c
      have core : ∀ (S0 M0 : MS), Iv t T S0 M0 → wX S0 87 = wX SX 87 → wM M0 0 = wM (th0 SM) 0 → (n = 0 ∨ LG T S0 M0 ∧ gI S0 81 1 = 0 ∧ gI M0 0 56 = 0) → ∃ (qX qM : Int32 × MS), fX10_go_35 0 (nI n) S0 = some qX ∧ fX11_go_40 0 (nI n) M0 = some qM ∧ qX.1 = qM.1 ∧ Inv qX.2 qM.2 := by
        intro S0 M0 hv0 ew0 em0 hlg
        obtain ⟨hX0, hM0, ex0, emm0, -, h570, -⟩ := hv0.1
        have hw0 := hv0.2.1.1
        have hk0 := hv0.2.1.2.1
        have e3 : wM M0 0 3 = nI a := by rw [em0]; exact ea
        obtain ⟨S1, q1, q2, q3⟩ := X_all (w := 87) (n := n) (h := a) hX0 W87 ex0 hW (by rw [hw0]; exact hk0) HW10 (by rw [hw0]; exact e3) hn (by omega) (fun hh => absurd hh (by decide))
        obtain ⟨M1, r1, r2, r3⟩ := M_go_go hW (show n < 2 ^ 31 by omega) n 0 1000 a M0 (Nat.zero_add _).symm (by omega) hM0 emm0 hk0 e3 (by omega) h570
        obtain ⟨p1, p2⟩ := passN_ok (tw := 0) (dr := true) hW n a (wM M0 0) hk0 e3 (by omega)
        have r1' : fX11_go_42 1000 0 (nI n) (0 : Int32) M0 = some (gI M1 27 0, M1) := r1
        rw [hw0] at q2
        have ew : wX S1 87 = wM M1 0 := by rw [q2, r2]
        have e27 : gI S1 87 3 = gI M1 27 0 := congrFun ew 3
        unfold fX10_go_35 fX11_go_40
        rw [rx_0_4 hX0.1, rx_0_9 hX0.1, q1, Option.bind_some, r1', rx_0_9 (hX0.1.of q3.1)]
        refine ⟨_, _, rfl, rfl, e27, t, T, hv0.move (q3.mo PX87_H) (r3.mo PM0_H) ⟨ew, by rw [r2]; exact p1, ?_⟩ ?_⟩
        · rw [r2, p2, show (9900 : Int32) = nI 9900 from rfl, nI_leI (by omega) (by decide)]; exact hc
        · rcases hlg with h0 | ⟨-, g1, g2⟩
          · subst h0
            exact hv0.2.2.2.1.fr (q3.mo PX87_l) (r3.mo PM0_l) (fun f _ => by rw [r2]; rfl)
          · exact LG0 (by rw [q3.2 _ _ (fun hp => by unfold PX at hp; omega)]; exact g1) (by rw [r3.2 _ _ (fun hp => by unfold PM at hp; omega)]; exact g2)
      by_cases c0 : nI n ≤ 0
      · rw [if_pos c0, if_pos c0]
        have : n = 0 := by rw [show (0 : Int32) = nI 0 from rfl, nI_leI (by omega) (by decide)] at c0; omega
        exact core SX (th0 SM) hv rfl rfl (Or.inl this)
      · rw [if_neg c0, if_neg c0]
        unfold fX2_forget
        rw [rx_0_7 hX.1, Option.bind_some]
        have e1 : wX (pI SX 81 1 0) 87 = wX SX 87 := wX_ne (by decide)
        have e2 : wM (pI (th0 SM) 0 56 0) 0 = wM (th0 SM) 0 := wM_ne (by omega)
        have hl : LG T (pI SX 81 1 0) (pI (th0 SM) 0 56 0) := LG0 gI_same gI_same
        exact core _ _ (hv.move (Fr.rf.pI (Or.inr (Or.inl ⟨rfl, rfl⟩))) (Fr.rf.pI (Or.inr (Or.inl ⟨rfl, rfl⟩))) (by unfold NW; rw [e1, e2]; exact hv.2.1) hl) e1 e2 (Or.inr ⟨hl, gI_same, gI_same⟩)
    · rw [if_neg c, if_neg c]; exact ⟨_, _, rfl, rfl, rfl, t, T, hv⟩
  · rw [decide_eq_false hz, if_pos b2i_f]
    rcases hrs_n hz with c | ⟨c1, c2⟩
    · rw [if_pos c]; exact ⟨_, _, rfl, rfl, rfl, t, T, hv⟩
    · rw [if_neg c1, if_pos c2]; exact ⟨_, _, rfl, rfl, rfl, t, T, hv⟩
