/-! ===== the log: notes, undoing ===== -/
def HX (o j : Nat) : Prop := QX o j ∨ (o = 81 ∧ j = 1) ∨ o = 82
def HM (o j : Nat) : Prop := QM o j ∨ (o = 0 ∧ j = 56) ∨ (27 ≤ o ∧ o < 36 ∧ 3 ≤ j) ∨ (36 ≤ o ∧ o < 39 ∧ 12 ≤ j)
theorem HX_c : ∀ o j, HX o j → cX o j := fun o j h => by unfold HX QX at h; unfold cX; omega
theorem HX_i : ∀ o j, HX o j → iX o j := fun o j h => by unfold HX QX at h; unfold iX; omega
theorem HX_s : ∀ o j, HX o j → sX o j := fun o j h => by unfold HX QX at h; unfold sX; omega
theorem HX_t : ∀ o j, HX o j → tpX o j := fun o j h => by unfold HX QX at h; unfold tpX; omega
theorem HX_f : ∀ o j, HX o j → ftX o j := fun o j h => by unfold HX QX at h; unfold ftX; omega
theorem HM_c : ∀ o j, HM o j → cM o j := fun o j h => by unfold HM QM at h; unfold cM; omega
theorem HM_i : ∀ o j, HM o j → iM o j := fun o j h => by unfold HM QM at h; unfold iM; omega
theorem HM_s : ∀ o j, HM o j → sM o j := fun o j h => by unfold HM QM at h; unfold sM; omega
theorem HM_t : ∀ o j, HM o j → tpM o j := fun o j h => by unfold HM QM at h; unfold tpM; omega
theorem HM_f : ∀ o j, HM o j → ftM o j := fun o j h => by unfold HM QM at h; unfold ftM; omega
theorem Iv.move {t : Nat} {T : TT} {SX SM SX1 SM1 : MS} (h : Iv t T SX SM) (fx : Fr HX SX SX1) (fm : Fr HM SM SM1) (hn : NW T SX1 SM1) (hl : LG T SX1 SM1) : Iv t T SX1 SM1 := by
  obtain ⟨h1, h2, h3, h4, h5, h6, h7⟩ := h
  exact ⟨h1.fr (fx.mo HX_c) (fm.mo HM_c), hn, h3.fr (fx.mo HX_i) (fm.mo HM_i), hl, h5.fr (fx.mo HX_s) (fm.mo HM_s), h6.fr (fx.mo HX_t) (fm.mo HM_t), h7.fr (fx.mo HX_f) (fm.mo HM_f)⟩
def PN (o j : Nat) : Prop := (o = 81 ∧ j = 1) ∨ o = 82
def PNM (o j : Nat) : Prop := (o = 0 ∧ j = 56) ∨ (27 ≤ o ∧ o < 36 ∧ 3 ≤ j) ∨ (36 ≤ o ∧ o < 39 ∧ 12 ≤ j)
theorem PN_H : ∀ o j, PN o j → HX o j := fun o j h => Or.inr h
theorem PNM_H : ∀ o j, PNM o j → HM o j := fun o j h => Or.inr h
theorem QX_H : ∀ o j, QX o j → HX o j := fun o j h => Or.inl h
theorem QM_H : ∀ o j, QM o j → HM o j := fun o j h => Or.inl h
theorem nle {i n : Nat} (hn : n < 2 ^ 31) (h : i < n) : ¬ nI n ≤ nI i := by rw [nI_leI hn (by omega)]; omega
theorem X_drop_go {t : Nat} {S0 : MS} : ∀ (d i fuel : Nat) (S : MS), 100 = i + d → 5 ≤ i → d < fuel → RX t S → Fr PN S0 S → (∀ j, j < i - 5 → gI S 82 j = gI S0 82 (j + 5)) → (∀ j, i - 5 ≤ j → gI S 82 j = gI S0 82 j) →
    ∃ S1, fX2_dropOldest_2 fuel 81 (nI i) S = some S1 ∧ Fr PN S0 S1 ∧ gI S1 81 1 = nI 19 ∧ ∀ j, j < 95 → gI S1 82 j = gI S0 82 (j + 5) := by
  intro d
  induction d with
  | zero =>
    intro i fuel S e1 e5 e2 h hf h1 h2
    obtain ⟨f, rfl⟩ : ∃ f, fuel = f + 1 := ⟨fuel - 1, by omega⟩
    refine ⟨pI S 81 1 19, ?_, hf.pI (Or.inl ⟨rfl, rfl⟩), gI_same, fun j hj => ?_⟩
    · unfold fX2_dropOldest_2
      rw [show i = 100 from by omega, if_pos (by decide)]
    · rw [gI_neo (by decide)]; exact h1 j (by omega)
  | succ d ih =>
    intro i fuel S e1 e5 e2 h hf h1 h2
    obtain ⟨f, rfl⟩ : ∃ f, fuel = f + 1 := ⟨fuel - 1, by omega⟩
    have hi : ¬ (100 : Int32) ≤ nI i := nle (n := 100) (by decide) (by omega)
    have hs : nI i - 5 = nI (i - 5) := nI_subN (b := 5) e5
    unfold fX2_dropOldest_2
    rw [if_neg hi, rx_81_0 h, lx_82, bnd_nI (show i < 100 by omega) (by decide), if_pos rfl, hs, bnd_nI (show i - 5 < 100 by omega) (by decide), if_pos rfl, nI_clamp (show i < 2 ^ 31 by omega), nI_clamp (show i - 5 < 2 ^ 31 by omega), nI_1]
    refine ih (i + 1) f _ (by omega) (by omega) (by omega) (h.of rfl) (hf.pI (Or.inr rfl)) (fun j hj => ?_) (fun j hj => ?_)
    · by_cases hji : j = i - 5
      · subst hji
        rw [gI_same, h2 i (by omega), show i - 5 + 5 = i from by omega]
      · rw [gI_nek hji]; exact h1 j (by omega)
    · rw [gI_nek (by omega)]; exact h2 j (by omega)
theorem X_note {t n : Nat} {S : MS} (h : RX t S) (hn : n ≤ 20) (e : gI S 81 1 = nI n) :
    ∃ S1, fX2_note 81 87 S = some S1 ∧ Fr PN S S1 ∧ gI S1 81 1 = nI (min n 19 + 1) ∧ (∀ j, j < 5 * min n 19 → gI S1 82 j = gI S 82 (j + 5 * (n - min n 19))) ∧ (∀ i, i < 5 → gI S1 82 (5 * min n 19 + i) = gI S 87 (4 + i)) := by
  have core : ∀ (S0 : MS) (m : Nat), m ≤ 19 → RX t S0 → gI S0 81 1 = nI m → (∀ j, gI S0 87 j = gI S 87 j) → Fr PN S S0 → ∃ S1, fX2_note_13 81 87 S0 = some S1 ∧ Fr PN S S1 ∧ gI S1 81 1 = nI (m + 1) ∧ (∀ j, j < 5 * m → gI S1 82 j = gI S0 82 j) ∧ (∀ i, i < 5 → gI S1 82 (5 * m + i) = gI S 87 (4 + i)) := by
    intro S0 m hm h0 e0 e87 f0
    have em : nI m * 5 = nI (5 * m) := by rw [show (5 : Int32) = nI 5 from rfl, nI_mul, Nat.mul_comm]
    have a1 : nI (5 * m) + 1 = nI (5 * m + 1) := nI_add _ 1
    have a2 : nI (5 * m) + 2 = nI (5 * m + 2) := nI_add _ 2
    have a3 : nI (5 * m) + 3 = nI (5 * m + 3) := nI_add _ 3
    have a4 : nI (5 * m) + 4 = nI (5 * m + 4) := nI_add _ 4
    have bb : ∀ k, k < 5 → bnd (nI (5 * m + k)) 100 = true := fun k hk => bnd_nI (by omega) (by decide)
    have cc : ∀ k, k < 5 → (nI (5 * m + k)).toNatClampNeg = 5 * m + k := fun k hk => nI_clamp (by omega)
    have b0 : bnd (nI (5 * m)) 100 = true := bb 0 (by decide)
    have c0 : (nI (5 * m)).toNatClampNeg = 5 * m := cc 0 (by decide)
    have n87 : (87 : Nat) ≠ 82 := by decide
    have n81 : (81 : Nat) ≠ 82 := by decide
    unfold fX2_note_13 fX2_note_42 fX2_note_66
    simp only [gR_pI, rx_81_0 h0, lx_82, e0, em, a1, a2, a3, a4, b0, c0, bb 1 (by decide), bb 2 (by decide), bb 3 (by decide), bb 4 (by decide), cc 1 (by decide), cc 2 (by decide), cc 3 (by decide), cc 4 (by decide), if_true, gI_neo n87, gI_neo n81, nI_1, e87]
    have p : ∀ j, PN 82 j := fun j => Or.inr rfl
    refine ⟨_, rfl, (((((f0.pI (p _)).pI (p _)).pI (p _)).pI (p _)).pI (p _)).pI (Or.inl ⟨rfl, rfl⟩), gI_same, fun j hj => ?_, fun i hi => ?_⟩
    · rw [gI_neo (by decide), gI_nek (by omega), gI_nek (by omega), gI_nek (by omega), gI_nek (by omega), gI_nek (by omega)]
    · rw [gI_neo (by decide)]
      rcases (by omega : i = 0 ∨ i = 1 ∨ i = 2 ∨ i = 3 ∨ i = 4) with rfl | rfl | rfl | rfl | rfl <;> simp [gI_pI]
  unfold fX2_note
  rw [e]
  by_cases c : n < 20
  · rw [if_pos (show nI n < (20 : Int32) from nI_lt (b := 20) c (by decide)), show min n 19 = n from by omega]
    obtain ⟨S1, q1, q2, q3, q4, q5⟩ := core S n (by omega) h e (fun _ => rfl) Fr.rf
    exact ⟨S1, q1, q2, q3, fun j hj => by rw [q4 j hj, Nat.sub_self, Nat.mul_zero, Nat.add_zero], q5⟩
  · have hn20 : n = 20 := by omega
    subst hn20
    rw [if_neg (by decide)]
    unfold fX2_dropOldest
    obtain ⟨S0, d1, d2, d3, d4⟩ := X_drop_go (t := t) (S0 := S) 95 5 1000 S rfl (by decide) (by decide) h Fr.rf (fun j hj => by omega) (fun j _ => rfl)
    have d1' : fX2_dropOldest_2 1000 81 (5 : Int32) S = some S0 := d1
    rw [d1', Option.bind_some]
    obtain ⟨S1, q1, q2, q3, q4, q5⟩ := core S0 19 (by decide) (h.of d2.1) d3 (fun j => d2.2 _ _ (fun hp => by unfold PN at hp; omega)) d2
    exact ⟨S1, q1, q2, q3, fun j hj => by rw [q4 j hj]; exact d4 j (by omega), q5⟩
theorem PMw_wM {S S1 : MS} {a q : Nat} (f : Fr (PMw a) S S1) (hn : q ≠ a) : wM S1 q = wM S q := Fr.wldM (f.mo PMw_M) hn
theorem PMw_N {a : Nat} (h : 3 ≤ a) : ∀ o j, PMw a o j → PNM o j := fun o j hp => by unfold PMw at hp; unfold PNM; omega
theorem M_shift_go {S0 : MS} : ∀ (d k fuel : Nat) (S : MS), 20 = k + d → 1 ≤ k → d < fuel → MR S → Fr PNM S0 S → gI S 0 56 = nI 20 → (∀ r, r < k - 1 → wM S (3 + r) = wM S0 (3 + r + 1)) → (∀ r, k - 1 ≤ r → wM S (3 + r) = wM S0 (3 + r)) → wM S 0 = wM S0 0 →
    ∃ S1, fX11_keepNow_11 fuel 0 (nI k) S = fX11_keepNow_45 0 S1 ∧ MR S1 ∧ Fr PNM S0 S1 ∧ gI S1 0 56 = nI 19 ∧ (∀ r, r < 19 → wM S1 (3 + r) = wM S0 (3 + r + 1)) ∧ wM S1 0 = wM S0 0 := by
  intro d
  induction d with
  | zero =>
    intro k fuel S e1 e5 e2 h hf h56 h1 h2 h0
    obtain ⟨f, rfl⟩ : ∃ f, fuel = f + 1 := ⟨fuel - 1, by omega⟩
    refine ⟨pI S 0 56 19, ?_, h.of rfl, hf.pI (Or.inl ⟨rfl, rfl⟩), gI_same, fun r hr => ?_, ?_⟩
    · unfold fX11_keepNow_11
      rw [show k = 20 from by omega, if_pos (by decide), h56]
      rfl
    · rw [wM_ne (by omega)]; exact h1 r (by omega)
    · rw [wM_ne (by omega)]; exact h0
  | succ d ih =>
    intro k fuel S e1 e5 e2 h hf h56 h1 h2 h0
    obtain ⟨f, rfl⟩ : ∃ f, fuel = f + 1 := ⟨fuel - 1, by omega⟩
    have hi : ¬ (20 : Int32) ≤ nI k := nle (n := 20) (by decide) (by omega)
    have a3 : (3 : Int32) + nI k = nI (3 + k) := nI_add 3 k
    have a2 : nI (3 + k) - 1 = nI (2 + k) := by rw [show 3 + k = 2 + k + 1 from by omega]; exact nI_pred _
    obtain ⟨S1, q1, q2, q3⟩ := M_copies (a := 2 + k) (b := 3 + k) h (by omega) (by omega) (by omega)
    unfold fX11_keepNow_11
    rw [if_neg hi, a3, a2, q1, Option.bind_some, nI_1]
    refine ih (k + 1) f S1 (by omega) (by omega) (by omega) (h.of q3.1) (hf.tr (q3.mo (PMw_N (by omega)))) ?_ (fun r hr => ?_) (fun r hr => ?_) ?_
    · rw [q3.2 _ _ (fun hp => by unfold PMw at hp; omega)]; exact h56
    · by_cases hrk : r = k - 1
      · subst hrk
        rw [show 3 + (k - 1) = 2 + k from by omega, q2, show 3 + k = 3 + k from rfl, show 2 + k + 1 = 3 + k from by omega]
        exact h2 k (by omega)
      · rw [PMw_wM q3 (by omega)]; exact h1 r (by omega)
    · rw [PMw_wM q3 (by omega)]; exact h2 r (by omega)
    · rw [PMw_wM q3 (by omega)]; exact h0
theorem M_keep {n : Nat} {S : MS} (h : MR S) (hn : n ≤ 20) (e : gI S 0 56 = nI n) :
    ∃ S1, fX11_keepNow 0 S = some S1 ∧ Fr PNM S S1 ∧ gI S1 0 56 = nI (min n 19 + 1) ∧ (∀ k, k < min n 19 → wM S1 (3 + k) = wM S (3 + (k + (n - min n 19)))) ∧ wM S1 (3 + min n 19) = wM S 0 ∧ wM S1 0 = wM S 0 := by
  have core : ∀ (S0 : MS) (m : Nat), m ≤ 19 → MR S0 → gI S0 0 56 = nI m → wM S0 0 = wM S 0 → Fr PNM S S0 → ∃ S1, fX11_keepNow_45 0 S0 = some S1 ∧ Fr PNM S S1 ∧ gI S1 0 56 = nI (m + 1) ∧ (∀ k, k < m → wM S1 (3 + k) = wM S0 (3 + k)) ∧ wM S1 (3 + m) = wM S 0 ∧ wM S1 0 = wM S 0 := by
    intro S0 m hm h0 e0 w0 f0
    obtain ⟨S1, q1, q2, q3⟩ := M_copies (a := 3 + m) (b := 0) h0 (by omega) (by omega) (by omega)
    have e56 : gI S1 0 56 = nI m := by rw [q3.2 _ _ (fun hp => by unfold PMw at hp; omega)]; exact e0
    have q1' : fX11_copies 0 (nI (3 + m)) (0 : Int32) S0 = some S1 := q1
    refine ⟨pI S1 0 56 (nI (m + 1)), ?_, (f0.tr (q3.mo (PMw_N (by omega)))).pI (Or.inl ⟨rfl, rfl⟩), gI_same, fun k hk => ?_, ?_, ?_⟩
    · unfold fX11_keepNow_45
      rw [e0, show (3 : Int32) + nI m = nI (3 + m) from nI_add 3 m, q1', Option.bind_some, e56, nI_1]
    · rw [wM_ne (by omega), PMw_wM q3 (by omega)]
    · rw [wM_ne (by omega), q2, w0]
    · rw [wM_ne (by omega), PMw_wM q3 (by omega), w0]
  unfold fX11_keepNow
  rw [e]
  by_cases c : n = 20
  · subst c
    rw [if_pos (by rfl)]
    obtain ⟨S0, d1, d2, d3, d4, d5, d6⟩ := M_shift_go (S0 := S) 19 1 1000 S rfl (by decide) (by decide) h Fr.rf e (fun r hr => by omega) (fun r _ => rfl) rfl
    have d1' : fX11_keepNow_11 1000 0 (1 : Int32) S = fX11_keepNow_45 0 S0 := d1
    rw [d1']
    obtain ⟨S1, q1, q2, q3, q4, q5, q6⟩ := core S0 19 (by decide) d2 d4 d6 d3
    exact ⟨S1, q1, q2, q3, fun k hk => by rw [q4 k hk]; exact d5 k hk, q5, q6⟩
  · rw [if_neg (by rw [show (20 : Int32) = nI 20 from rfl, nI_eq (by omega) (by decide)]; exact c), show min n 19 = n from by omega]
    obtain ⟨S1, q1, q2, q3, q4, q5, q6⟩ := core S n (by omega) h e rfl Fr.rf
    exact ⟨S1, q1, q2, q3, fun k hk => by rw [q4 k hk, Nat.sub_self, Nat.add_zero], q5, q6⟩
theorem note_ok {t : Nat} {T : TT} {SX SM : MS} (h : Iv t T SX SM) : ∃ SX1 SM1, fX2_note 81 87 SX = some SX1 ∧ fX11_keepNow 0 SM = some SM1 ∧ Iv t T SX1 SM1 ∧ wX SX1 87 = wX SX 87 ∧ wM SM1 0 = wM SM 0 := by
  obtain ⟨n, hn, h1, h2, h3⟩ := h.2.2.2.1
  obtain ⟨S1, q1, q2, q3, q4, q5⟩ := X_note h.1.1.1 hn h1
  obtain ⟨S2, r1, r2, r3, r4, r5, r6⟩ := M_keep h.1.2.1.1 hn h2
  have ex : wX S1 87 = wX SX 87 := Fr.wld q2 (fun o j a b hp => by unfold PN at hp; omega)
  have hw := h.2.1.1
  refine ⟨S1, S2, q1, r1, h.move (q2.mo PN_H) (r2.mo PNM_H) ?_ ?_, ex, r6⟩
  · unfold NW; rw [ex, r6]; exact h.2.1
  · refine ⟨min n 19 + 1, by omega, q3, r3, fun k hk => ?_⟩
    unfold LN
    by_cases hkm : k < min n 19
    · have hL := h3 (k + (n - min n 19)) (by omega)
      unfold LN at hL
      rw [r4 k hkm, r6, q4 _ (by omega), q4 _ (by omega), q4 _ (by omega), q4 _ (by omega), q4 _ (by omega)]
      rw [show 5 * k + 5 * (n - min n 19) = 5 * (k + (n - min n 19)) from by omega, show 5 * k + 1 + 5 * (n - min n 19) = 5 * (k + (n - min n 19)) + 1 from by omega, show 5 * k + 2 + 5 * (n - min n 19) = 5 * (k + (n - min n 19)) + 2 from by omega, show 5 * k + 3 + 5 * (n - min n 19) = 5 * (k + (n - min n 19)) + 3 from by omega, show 5 * k + 4 + 5 * (n - min n 19) = 5 * (k + (n - min n 19)) + 4 from by omega]
      exact hL
    · have e : k = min n 19 := by omega
      subst e
      have w : ∀ j, wX SX 87 j = wM SM 0 j := fun j => congrFun hw j
      rw [r5, r6]
      exact ⟨(q5 0 (by decide)).trans (w 4), (q5 1 (by decide)).trans (w 5), (q5 2 (by decide)).trans (w 6), (q5 3 (by decide)).trans (w 7), (q5 4 (by decide)).trans (w 8), fun f _ => rfl, h.2.1.2.1⟩
/-! ===== steps, lamps, doings by call; undoing; images ===== -/
theorem PX87_H : ∀ o j, PX 87 o j → HX o j := fun o j h => Or.inl (PX87_Q o j h)
theorem PM0_H : ∀ o j, PM 0 o j → HM o j := fun o j h => Or.inl (PM0_Q o j h)
theorem PX87_l : ∀ o j, PX 87 o j → lX o j := fun o j h => QX_l o j (PX87_Q o j h)
theorem PM0_l : ∀ o j, PM 0 o j → lM o j := fun o j h => QM_l o j (PM0_Q o j h)
theorem Iv.now {t : Nat} {T : TT} {SX SM SX1 SM1 : MS} (h : Iv t T SX SM) (fx : Fr (PX 87) SX SX1) (fm : Fr (PM 0) SM SM1) (ew : wX SX1 87 = wM SM1 0) (hk : WOK T (wM SM1 0)) (hf : ∀ f, ¬ (4 ≤ f ∧ f ≤ 8) → wM SM1 0 f = wM SM 0 f) : Iv t T SX1 SM1 :=
  h.move (fx.mo PX87_H) (fm.mo PM0_H) ⟨ew, hk, by rw [hf 3 (by decide)]; exact h.2.1.2.2⟩ (h.2.2.2.1.fr (fx.mo PX87_l) (fm.mo PM0_l) hf)
theorem step_f {T : TT} {tw way : Int32} {w : Nat → Int32} {f : Nat} (hf : ¬ (4 ≤ f ∧ f ≤ 8)) : stepW T tw way w f = w f := by
  unfold stepW movW
  split
  · rw [up_ne (by omega), up_ne (by omega)]
  · rw [up_ne (by omega), up_ne (by omega), up_ne (by omega)]
theorem sim_10 : Sim_10 Inv := by
  intro SX SM z0 ⟨t, T, h⟩
  have hv := h.th
  have hiv : Inv SX (th0 SM) := ⟨t, T, hv⟩
  obtain ⟨hX, hM, ex, em, hW, h57, hE⟩ := hv.1
  have hw := hv.2.1.1
  have hk := hv.2.1.2.1
  have hD := hW.2.2.2.1
  have i34 : (z0 < 4) ↔ (z0 ≤ 3) := by constructor <;> intro hh <;> grind
  unfold fX10_step fX11_step
  by_cases c1 : z0 < 0
  · rw [if_pos c1, if_pos c1]; exact ⟨_, _, rfl, rfl, rfl, hiv⟩
  rw [if_neg c1, if_neg c1]
  by_cases c2 : z0 ≤ 3
  · rw [if_pos (i34.mpr c2), if_pos c2]
    have a := X_isOpen (w := 87) (way := z0) hX (by rw [ex]; exact hD) HW00 (fun hh => absurd hh (by decide))
    have b := M_canStep (r := 0) (way := z0) hM (by rw [em]; exact hD) (by decide) h57
    rw [ex, hw] at a
    rw [em] at b
    have b' : fX11_canStep 0 (0 : Int32) z0 (th0 SM) = _ := b
    rw [rx_0_4 hX.1, rx_0_9 hX.1, rx_0_7 hX.1, a, b', Option.bind_some, Option.bind_some]
    cases ho : openB T 0 (wM (th0 SM) 0) z0 with
    | false => rw [if_pos b2i_f, if_pos b2i_f]; exact ⟨_, _, rfl, rfl, rfl, hiv⟩
    | true =>
      rw [if_neg b2i_t, if_neg b2i_t]
      obtain ⟨S1, M1, q1, r1, hv1, ew1, em1⟩ := note_ok hv
      obtain ⟨hX1, hM1, ex1, emm1, -, h571, -⟩ := hv1.1
      have hw1 := hv1.2.1.1
      have hk1 := hv1.2.1.2.1
      obtain ⟨S2, a1, a2, a3⟩ := X_attempt (w := 87) (way := z0) hX1 W87 (by rw [ex1]; exact hD) (by rw [ex1]; exact hW.2.1) (by rw [hw1]; exact hk1.2.1) HW00 (fun hh => absurd hh (by decide))
      obtain ⟨M2, b1, b2, b3⟩ := M_stepsBy (r := 0) (way := z0) hM1 (by rw [emm1]; exact hW.2.2.1) (by decide) h571
      rw [ex1, hw1, em1] at a2
      rw [emm1, em1] at b2
      unfold attW at a2
      rw [if_pos ho] at a2
      have b1' : fX11_stepsBy 0 (0 : Int32) z0 M1 = some M2 := b1
      have ew : wX S2 87 = wM M2 0 := by rw [a2, b2]
      have e6 : gI S2 87 6 = gI M2 32 0 := congrFun ew 6
      simp only [q1, r1, Option.bind_some, rx_0_4 hX1.1, rx_0_9 hX1.1, a1, b1', rx_0_9 (hX1.1.of a3.1), mr_48 (hM1.1.of b3.1), lm_32, show bnd (0 : Int32) 23 = true from rfl, if_true, show (0 : Int32).toNatClampNeg = 0 from rfl]
      refine ⟨_, _, rfl, rfl, e6, t, T, hv1.now a3 b3 ew ?_ (fun f hf => ?_)⟩
      · rw [b2]; exact WOK_step hk ho
      · rw [b2, em1]; exact step_f hf
  · rw [if_neg (fun hh => c2 (i34.mp hh)), if_neg c2]; exact ⟨_, _, rfl, rfl, rfl, hiv⟩
set_option maxRecDepth 100000 in
theorem xor_dec : ∀ x, x < 16 → ∀ i, i < 4 → 0 ≤ (nI x ^^^ ((1 : Int32) <<< (nI i &&& 31))) ∧ (nI x ^^^ ((1 : Int32) <<< (nI i &&& 31))) < 16 := by decide +kernel
set_option maxRecDepth 100000 in
theorem and_dec : ∀ x, x < 256 → ∀ i, i < 8 → 0 ≤ (nI x &&& (((1 : Int32) <<< (nI i &&& 31)) ^^^ (-1))) ∧ (nI x &&& (((1 : Int32) <<< (nI i &&& 31)) ^^^ (-1))) < 256 ∧ (((nI x >>> (nI i &&& 31)) &&& 1 = 0) ∨ nI x ^^^ ((1 : Int32) <<< (nI i &&& 31)) = nI x &&& (((1 : Int32) <<< (nI i &&& 31)) ^^^ (-1))) := by decide +kernel
theorem bz_b (z : Int32) : ∃ b : Bool, bz z = b2i b := by
  unfold bz
  split
  · exact ⟨false, rfl⟩
  · exact ⟨true, rfl⟩
theorem bit01 (x y : Int32) : (x >>> y) &&& 1 = 0 ∨ (x >>> y) &&& 1 = 1 := by
  have := i1_bit (x := x) y
  by_cases c : (x >>> y) &&& 1 = 0
  · exact Or.inl c
  · exact Or.inr (this.mpr c)
theorem WOK_7 {T : TT} {w : Nat → Int32} {v : Int32} (h : WOK T w) (h1 : 0 ≤ v) (h2 : v < 16) : WOK T (up w 7 v) := by
  refine ⟨WP_up h.1 (by decide) (by decide), ⟨by rw [up_same]; exact h1, by rw [up_same]; exact h2, by rw [up_ne (by decide)]; exact h.2.1.2.2.1, by rw [up_ne (by decide)]; exact h.2.1.2.2.2⟩, ?_, ?_⟩
  · rw [up_ne (by decide)]; exact h.2.2.1
  · rw [up_ne (by decide)]; exact h.2.2.2
theorem WOK_8 {T : TT} {w : Nat → Int32} {v : Int32} (h : WOK T w) (h1 : 0 ≤ v) (h2 : v < 256) : WOK T (up w 8 v) := by
  refine ⟨WP_up h.1 (by decide) (by decide), ⟨by rw [up_ne (by decide)]; exact h.2.1.1, by rw [up_ne (by decide)]; exact h.2.1.2.1, by rw [up_same]; exact h1, by rw [up_same]; exact h2⟩, ?_, ?_⟩
  · rw [up_ne (by decide)]; exact h.2.2.1
  · rw [up_ne (by decide)]; exact h.2.2.2
theorem sim_11 : Sim_11 Inv := by
  intro SX SM z0 z1 ⟨t, T, h⟩
  have hv := h.th
  have hiv : Inv SX (th0 SM) := ⟨t, T, hv⟩
  obtain ⟨hX, hM, ex, em, hW, h57, hE⟩ := hv.1
  have hw := hv.2.1.1
  have hk := hv.2.1.2.1
  have hC := hW.1
  have hn := nq_le hC
  have w7 : gI SX 87 7 = wM (th0 SM) 0 7 := congrFun hw 7
  have m7 : gI (th0 SM) 34 0 = wM (th0 SM) 0 7 := rfl
  obtain ⟨b, hb⟩ := bz_b z1
  rw [hb]
  unfold fX10_light fX11_light
  rw [rx_told hX.1, rt_3 hX.1 hX.1.1, X_isLamp hX (by rw [ex]; exact hC), M_isLamp hM.1, ex, em]
  by_cases hz : 0 ≤ z0 ∧ z0 < sc T 1
  · rw [decide_eq_true hz]
    obtain ⟨i, hi, -, rfl⟩ := idx_of hC (by decide) hz
    obtain ⟨S1, M1, q1, r1, hv1, ew1, em1⟩ := note_ok hv
    obtain ⟨hX1, hM1, ex1, emm1, -, h571, -⟩ := hv1.1
    have hw1 := hv1.2.1.1
    have hk1 := hv1.2.1.2.1
    have s7 : gI S1 87 7 = wM M1 0 7 := congrFun hw1 7
    have t7 : gI M1 34 0 = wM M1 0 7 := rfl
    have go : Inv (pI S1 87 7 (wM M1 0 7 ^^^ ((1 : Int32) <<< (nI i &&& 31)))) (pI M1 34 0 (wM M1 0 7 ^^^ ((1 : Int32) <<< (nI i &&& 31)))) := by
      have ea : wX (pI S1 87 7 (wM M1 0 7 ^^^ ((1 : Int32) <<< (nI i &&& 31)))) 87 = up (wM M1 0) 7 (wM M1 0 7 ^^^ ((1 : Int32) <<< (nI i &&& 31))) := by rw [wX_own (by decide) (by decide), hw1]
      have eb : wM (pI M1 34 0 (wM M1 0 7 ^^^ ((1 : Int32) <<< (nI i &&& 31)))) 0 = up (wM M1 0) 7 (wM M1 0 7 ^^^ ((1 : Int32) <<< (nI i &&& 31))) := by rw [show (34 : Nat) = mWc 7 from rfl, wM_own (by decide) (by decide)]
      refine ⟨t, T, hv1.now (Fr.rf.pI (Or.inr ⟨by decide, by decide⟩)) (Fr.rf.pI (PM_w (by decide) (by decide))) (by rw [ea, eb]) ?_ (fun f hf => by rw [eb, up_ne (by omega)])⟩
      rw [eb]
      obtain ⟨x, hx, e7⟩ := nI_of (Int32.not_lt.mpr hk1.2.1.1)
      have hx16 : x < 16 := by have := hk1.2.1.2.1; rw [e7, show (16 : Int32) = nI 16 from rfl, nI_ltI hx (by decide)] at this; exact this
      have := xor_dec x hx16 i (by omega)
      rw [e7]
      exact WOK_7 hk1 this.1 this.2
    have go' : ∀ c : Int32, (∃ (qX : Int32 × MS) (qM : Int32 × MS), (if c = b2i b then some ((0 : Int32), SX) else (fX2_note 81 87 SX).bind fun q4 => some ((1 : Int32), pI q4 (gR q4 0 9) 7 ((gI q4 (gR q4 0 9) 7) ^^^ ((1 : Int32) <<< (nI i &&& 31))))) = some qX ∧ fX11_light_32 0 (nI i) (b2i b) c (th0 SM) = some qM ∧ qX.1 = qM.1 ∧ Inv qX.2 qM.2) := by
      intro c
      unfold fX11_light_32 fX11_light_54
      by_cases cb : c = b2i b
      · rw [if_pos cb, if_pos cb]; exact ⟨_, _, rfl, rfl, rfl, hiv⟩
      · rw [if_neg cb, if_neg cb, q1, r1]
        simp only [Option.bind_some, rx_0_9 hX1.1, mr_50 hM1.1, lm_34, show bnd (0 : Int32) 23 = true from rfl, if_true, show (0 : Int32).toNatClampNeg = 0 from rfl, s7, t7]
        exact ⟨_, _, rfl, rfl, rfl, go⟩
    unfold fX10_light_34
    rw [Option.bind_some, if_neg b2i_t, Option.bind_some, if_neg b2i_t, rx_0_7 hX.1, rx_0_9 hX.1, w7, mr_50 hM.1, lm_34, show bnd (0 : Int32) 23 = true from rfl, if_pos rfl, show (0 : Int32).toNatClampNeg = 0 from rfl, m7]
    rcases bit01 (wM (th0 SM) 0 7) (nI i &&& 31) with e | e <;> rw [e] <;> cases b
    · exact go' 0
    · exact go' 0
    · exact go' 1
    · exact go' 1
  · rw [decide_eq_false hz]; exact ⟨_, _, rfl, rfl, rfl, hiv⟩
theorem sim_12 : Sim_12 Inv := by
  intro SX SM z0 ⟨t, T, h⟩
  have hv := h.th
  have hiv : Inv SX (th0 SM) := ⟨t, T, hv⟩
  obtain ⟨hX, hM, ex, em, hW, h57, hE⟩ := hv.1
  have hw := hv.2.1.1
  have hk := hv.2.1.2.1
  have hC := hW.1
  have hn := nq_le hC
  have w8 : gI SX 87 8 = wM (th0 SM) 0 8 := congrFun hw 8
  have m8 : gI (th0 SM) 35 0 = wM (th0 SM) 0 8 := rfl
  unfold fX10_again fX11_again fX11_again_46
  rw [rx_told hX.1, rt_5 hX.1 hX.1.1, X_isDoing hX (by rw [ex]; exact hC), M_isDoing hM.1, ex, em]
  by_cases hz : 0 ≤ z0 ∧ z0 < sc T 3
  · rw [decide_eq_true hz]
    obtain ⟨i, hi, -, rfl⟩ := idx_of hC (by decide) hz
    rw [Option.bind_some, if_neg b2i_t, Option.bind_some, if_neg b2i_t, rx_0_7 hX.1, rx_0_9 hX.1, w8, mr_51 hM.1, lm_35, show bnd (0 : Int32) 23 = true from rfl, if_pos rfl, show (0 : Int32).toNatClampNeg = 0 from rfl, m8]
    by_cases cb : (wM (th0 SM) 0 8 >>> (nI i &&& 31)) &&& 1 = 0
    · rw [if_pos cb, if_pos cb]; exact ⟨_, _, rfl, rfl, rfl, hiv⟩
    · rw [if_neg cb, if_neg cb]
      obtain ⟨S1, M1, q1, r1, hv1, ew1, em1⟩ := note_ok hv
      obtain ⟨hX1, hM1, ex1, emm1, -, h571, -⟩ := hv1.1
      have hw1 := hv1.2.1.1
      have hk1 := hv1.2.1.2.1
      have s8 : gI S1 87 8 = wM M1 0 8 := congrFun hw1 8
      have t8 : gI M1 35 0 = wM M1 0 8 := rfl
      rw [← em1] at cb
      obtain ⟨x, hx, e8⟩ := nI_of (Int32.not_lt.mpr hk1.2.1.2.2.1)
      have hx256 : x < 256 := by have := hk1.2.1.2.2.2; rw [e8, show (256 : Int32) = nI 256 from rfl, nI_ltI hx (by decide)] at this; exact this
      obtain ⟨d1, d2, d3⟩ := and_dec x hx256 i (by omega)
      rw [← e8] at d1 d2 d3
      have d4 := d3.resolve_left cb
      rw [q1, r1]
      simp only [Option.bind_some, rx_0_9 hX1.1, mr_51 hM1.1, lm_35, show bnd (0 : Int32) 23 = true from rfl, if_true, show (0 : Int32).toNatClampNeg = 0 from rfl, s8, t8, d4]
      refine ⟨_, _, rfl, rfl, rfl, t, T, ?_⟩
      have ea : wX (pI S1 87 8 (wM M1 0 8 &&& (((1 : Int32) <<< (nI i &&& 31)) ^^^ (-1)))) 87 = up (wM M1 0) 8 (wM M1 0 8 &&& (((1 : Int32) <<< (nI i &&& 31)) ^^^ (-1))) := by rw [wX_own (by decide) (by decide), hw1]
      have eb : wM (pI M1 35 0 (wM M1 0 8 &&& (((1 : Int32) <<< (nI i &&& 31)) ^^^ (-1)))) 0 = up (wM M1 0) 8 (wM M1 0 8 &&& (((1 : Int32) <<< (nI i &&& 31)) ^^^ (-1))) := by rw [show (35 : Nat) = mWc 8 from rfl, wM_own (by decide) (by decide)]
      exact hv1.now (Fr.rf.pI (Or.inr ⟨by decide, by decide⟩)) (Fr.rf.pI (PM_w (by decide) (by decide))) (by rw [ea, eb]) (by rw [eb]; exact WOK_8 hk1 d1 d2) (fun f hf => by rw [eb, up_ne (by omega)])
  · rw [decide_eq_false hz]; exact ⟨_, _, rfl, rfl, rfl, hiv⟩
