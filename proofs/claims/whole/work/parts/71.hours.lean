/-! ===== hours on end ===== -/
theorem men_lt {T : TT} {fr fc : Int32} {one : Bool} {k : Nat} (hk : k < 20) : ∀ (n i : Nat) (w : Nat → Int32), menW T fr fc one n i w k = w k
  | 0, _, _ => rfl
  | n + 1, i, w => by
    show menW T fr fc one n (i + 1) (manW T fr fc one i w) k = _
    rw [men_lt hk n (i + 1)]
    unfold manW
    split
    · rw [up_ne (by omega)]
    · split
      · rw [up_ne (by omega), up_ne (by omega)]
      · rfl
theorem men_ge {T : TT} {fr fc : Int32} {one : Bool} {j : Nat} (hj : j < 4) : ∀ (n i : Nat) (w : Nat → Int32), i + n ≤ j → menW T fr fc one n i w (40 + j) = w (40 + j)
  | 0, _, _, _ => rfl
  | n + 1, i, w, h => by
    show menW T fr fc one n (i + 1) (manW T fr fc one i w) (40 + j) = _
    rw [men_ge hj n (i + 1) _ (by omega)]
    unfold manW
    split
    · rw [up_ne (by omega)]
    · split
      · rw [up_ne (by omega), up_ne (by omega)]
      · rfl
theorem dos_ne {T : TT} {fr fc : Int32} {one : Bool} {k : Nat} (hk : k ≠ 8) : ∀ (n i : Nat) (w : Nat → Int32), dosW T fr fc one n i w k = w k
  | 0, _, _ => rfl
  | n + 1, i, w => by
    show dosW T fr fc one n (i + 1) (doW T fr fc one i w) k = _
    rw [dos_ne hk n (i + 1)]
    unfold doW
    generalize (if tb T 3 i 1 = 0 then decide (w 4 = tb T 3 i 2 ∧ w 5 = tb T 3 i 3) else decide (one = false ∧ fr = tb T 3 i 2 ∧ fc = tb T 3 i 3)) = b
    cases b
    · rfl
    · exact up_ne hk
theorem att_ge {T : TT} {tw way : Int32} {w : Nat → Int32} {k : Nat} (hk : 10 ≤ k) : attW T tw way w k = w k := by
  unfold attW stepW movW
  split
  · split
    · rw [up_ne (by omega), up_ne (by omega)]
    · rw [up_ne (by omega), up_ne (by omega), up_ne (by omega)]
  · rw [up_ne (by omega)]
theorem stp_3 {T : TT} {tw : Int32} : ∀ (n i : Nat) (w : Nat → Int32), stpW T tw n i w 3 = w 3
  | 0, _, _ => rfl
  | n + 1, i, w => by
    show stpW T tw n (i + 1) _ 3 = _
    rw [stp_3 n (i + 1)]
    split
    · exact att_3
    · rfl
theorem stp_ge {T : TT} {tw : Int32} {k : Nat} (hk : 10 ≤ k) : ∀ (n i : Nat) (w : Nat → Int32), stpW T tw n i w k = w k
  | 0, _, _ => rfl
  | n + 1, i, w => by
    show stpW T tw n (i + 1) _ k = _
    rw [stp_ge hk n (i + 1)]
    split
    · exact att_ge hk
    · rfl
theorem cloud_ne {T : TT} {tw : Int32} {dr : Bool} {w : Nat → Int32} {k : Nat} (hk : k ≠ 11) : cloudW T tw dr w k = w k := by
  unfold cloudW
  split
  · rfl
  · split
    · rfl
    · rw [up_ne hk]
theorem end_ne {w : Nat → Int32} {k : Nat} (h3 : k ≠ 3) (h6 : k ≠ 6) : endW w k = w k := by
  unfold endW
  rw [up_ne h3]
  split
  · rw [up_ne h6]
  · rfl
theorem end_6 {w : Nat → Int32} : endW w 6 = 0 ∨ endW w 6 = w 6 := by
  unfold endW
  rw [up_ne (by decide)]
  split
  · left; rw [up_same]
  · right; rfl
theorem end_3 {w : Nat → Int32} : endW w 3 = w 3 + 1 := by unfold endW; rw [up_same]
theorem if10 {w : Nat → Int32} {b : Bool} {v : Int32} {k : Nat} (h : k ≠ 10) : (if b = true then up w 10 v else w) k = w k := by
  cases b
  · rfl
  · exact up_ne h
theorem pass_3 {T : TT} {tw : Int32} {dr : Bool} {w : Nat → Int32} : passW T tw dr w 3 = w 3 + 1 := by
  unfold passW restW
  rw [end_3, men_lt (by decide), dos_ne (by decide), if10 (by decide), stp_3, cloud_ne (by decide)]
theorem pass_40 {T : TT} {tw : Int32} {dr : Bool} {w : Nat → Int32} {j : Nat} (hj : j < 4) (h : nq T 4 ≤ j) : passW T tw dr w (40 + j) = w (40 + j) := by
  unfold passW restW
  rw [end_ne (by omega) (by omega), men_ge hj _ _ _ (by omega), dos_ne (by omega), if10 (by omega), stp_ge (by omega), cloud_ne (by omega)]
theorem pass_6 {T : TT} {dr : Bool} {w : Nat → Int32} (h : w 6 < 9) : passW T 4 dr w 6 < 9 := by
  unfold passW restW
  rcases end_6 (w := (menW T (fallS T (stpW T 4 (nq T 2) 0 (cloudW T 4 dr w)) (sunS T (cloudB T 4 dr w) 4 (hr24 (stpW T 4 (nq T 2) 0 (cloudW T 4 dr w) 3))) (hr24 (stpW T 4 (nq T 2) 0 (cloudW T 4 dr w) 3))).1 (fallS T (stpW T 4 (nq T 2) 0 (cloudW T 4 dr w)) (sunS T (cloudB T 4 dr w) 4 (hr24 (stpW T 4 (nq T 2) 0 (cloudW T 4 dr w) 3))) (hr24 (stpW T 4 (nq T 2) 0 (cloudW T 4 dr w) 3))).2 (oneS T (stpW T 4 (nq T 2) 0 (cloudW T 4 dr w)) (sunS T (cloudB T 4 dr w) 4 (hr24 (stpW T 4 (nq T 2) 0 (cloudW T 4 dr w) 3))) (hr24 (stpW T 4 (nq T 2) 0 (cloudW T 4 dr w) 3))) (nq T 4) 0 (dosW T (fallS T (stpW T 4 (nq T 2) 0 (cloudW T 4 dr w)) (sunS T (cloudB T 4 dr w) 4 (hr24 (stpW T 4 (nq T 2) 0 (cloudW T 4 dr w) 3))) (hr24 (stpW T 4 (nq T 2) 0 (cloudW T 4 dr w) 3))).1 (fallS T (stpW T 4 (nq T 2) 0 (cloudW T 4 dr w)) (sunS T (cloudB T 4 dr w) 4 (hr24 (stpW T 4 (nq T 2) 0 (cloudW T 4 dr w) 3))) (hr24 (stpW T 4 (nq T 2) 0 (cloudW T 4 dr w) 3))).2 (oneS T (stpW T 4 (nq T 2) 0 (cloudW T 4 dr w)) (sunS T (cloudB T 4 dr w) 4 (hr24 (stpW T 4 (nq T 2) 0 (cloudW T 4 dr w) 3))) (hr24 (stpW T 4 (nq T 2) 0 (cloudW T 4 dr w) 3))) (nq T 3) 0 (if oneS T (stpW T 4 (nq T 2) 0 (cloudW T 4 dr w)) (sunS T (cloudB T 4 dr w) 4 (hr24 (stpW T 4 (nq T 2) 0 (cloudW T 4 dr w) 3))) (hr24 (stpW T 4 (nq T 2) 0 (cloudW T 4 dr w) 3)) = true then up (stpW T 4 (nq T 2) 0 (cloudW T 4 dr w)) 10 (stpW T 4 (nq T 2) 0 (cloudW T 4 dr w) 10 + 1) else (stpW T 4 (nq T 2) 0 (cloudW T 4 dr w)))))) with e | e
  · rw [e]; decide
  · rw [e, men_lt (by decide), dos_ne (by decide), if10 (by decide), stp_6, cloud_6]; exact h
theorem i_s2 {x : Int32} (h : 0 ≤ x) (h2 : x < 20000) : 0 ≤ x + 1 ∧ x + 1 ≤ 20000 := by grind
theorem WOK_end {T : TT} {w : Nat → Int32} (h : WOK T w) (h2 : w 3 < 20000) : WOK T (endW w) := by
  have hs := i_s2 h.2.2.1 h2
  unfold endW
  have e : ∀ w', WOK T w' → WOK T (up w' 3 (w 3 + 1)) := fun w' h' => by
    refine ⟨WP_up h'.1 (by decide) (by decide), WB_up h'.2.1 (by decide) (by decide), ?_, ?_⟩
    · rw [up_same]; exact hs.1
    · rw [up_same]; exact hs.2
  split
  · exact e _ (WOK_up h (by decide))
  · exact e _ h
theorem WOK_pass {T : TT} {tw : Int32} {dr : Bool} {w : Nat → Int32} (hW : WT T) (h : WOK T w) (h2 : w 3 < 20000) : WOK T (passW T tw dr w) := by
  have hn := nq_le hW.1
  unfold passW restW
  have h1 : WOK T (stpW T tw (nq T 2) 0 (cloudW T tw dr w)) := WOK_stp _ _ _ (WOK_cloud h)
  have e3 : stpW T tw (nq T 2) 0 (cloudW T tw dr w) 3 = w 3 := by rw [stp_3, cloud_ne (by decide)]
  refine WOK_end (WOK_men _ _ _ (WOK_dos _ _ _ (by omega) ?_)) ?_
  · split
    · exact WOK_up h1 (by decide)
    · exact h1
  · rw [men_lt (by decide), dos_ne (by decide), if10 (by decide), e3]; exact h2
def passN (T : TT) (tw : Int32) (dr : Bool) : Nat → (Nat → Int32) → (Nat → Int32)
  | 0, w => w
  | n + 1, w => passN T tw dr n (passW T tw dr w)
theorem passN_ok {T : TT} {tw : Int32} {dr : Bool} (hW : WT T) : ∀ (n h : Nat) (w : Nat → Int32), WOK T w → w 3 = nI h → h + n ≤ 20000 → WOK T (passN T tw dr n w) ∧ passN T tw dr n w 3 = nI (h + n)
  | 0, h, w, hk, e, _ => ⟨hk, e⟩
  | n + 1, h, w, hk, e, hn => by
    have := passN_ok (tw := tw) (dr := dr) hW n (h + 1) (passW T tw dr w) (WOK_pass hW hk (by rw [e, show (20000 : Int32) = nI 20000 from rfl, nI_ltI (by omega) (by decide)]; omega)) (by rw [pass_3, e, nI_1]) (by omega)
    rw [show h + (n + 1) = h + 1 + n from by omega]
    exact this
theorem passN_40 {T : TT} {tw : Int32} {dr : Bool} {j : Nat} (hj : j < 4) (h : nq T 4 ≤ j) : ∀ (n : Nat) (w : Nat → Int32), passN T tw dr n w (40 + j) = w (40 + j)
  | 0, _ => rfl
  | n + 1, w => by
    show passN T tw dr n (passW T tw dr w) (40 + j) = _
    rw [passN_40 hj h n, pass_40 hj h]
theorem lt20k {w : Nat → Int32} {h n : Nat} (e : w 3 = nI h) (hn : h + (n + 1) ≤ 20000) : w 3 < 20000 := by
  rw [e, show (20000 : Int32) = nI 20000 from rfl, nI_ltI (by omega) (by decide)]; omega
theorem X_all_go {t w n : Nat} {T : TT} {how tw : Int32} {dr : Bool} (hw : isW w) (hW : WT T) (hh : HW how tw dr) (hn : n < 2 ^ 31) : ∀ (d i fuel h : Nat) (S : MS), n = i + d → d < fuel → XO t S → tX S t = T → WOK T (wX S w) → wX S w 3 = nI h → h + d ≤ 20000 → (tw = 4 → wX S w 6 < 9) →
    ∃ S1, fX0_passAll_3 fuel 52 w (nI n) how (nI i) S = some S1 ∧ wX S1 w = passN T tw dr d (wX S w) ∧ Fr (PX w) S S1 := by
  intro d
  induction d with
  | zero =>
    intro i fuel h S e1 e2 hX et hk e3 hn h4
    obtain ⟨f, rfl⟩ : ∃ f, fuel = f + 1 := ⟨fuel - 1, by omega⟩
    refine ⟨S, ?_, rfl, Fr.rf⟩
    unfold fX0_passAll_3
    rw [e1, Nat.add_zero, if_pos (Int32.le_refl _)]
  | succ d ih =>
    intro i fuel h S e1 e2 hX et hk e3 hn h4
    obtain ⟨f, rfl⟩ : ∃ f, fuel = f + 1 := ⟨fuel - 1, by omega⟩
    have hin : ¬ nI n ≤ nI i := by rw [nI_leI (by omega) (by omega)]; omega
    unfold fX0_passAll_3
    obtain ⟨S1, q1, q2, q3⟩ := X_pass hX hw et hW hk hh h4
    rw [if_neg hin, q1, Option.bind_some, nI_1]
    obtain ⟨S2, r1, r2, r3⟩ := ih (i + 1) f (h + 1) S1 (by omega) (by omega) (hX.fr hw q3) ((hX.told hw q3).trans et) (by rw [q2]; exact WOK_pass hW hk (lt20k e3 hn)) (by rw [q2, pass_3, e3, nI_1]) (by omega) (fun c => by rw [q2, c]; exact pass_6 (h4 c))
    exact ⟨S2, r1, by rw [r2, q2]; rfl, q3.tr r3⟩
theorem X_all {t w n h : Nat} {S : MS} {T : TT} {how tw : Int32} {dr : Bool} (hX : XO t S) (hw : isW w) (et : tX S t = T) (hW : WT T) (hk : WOK T (wX S w)) (hh : HW how tw dr) (e3 : wX S w 3 = nI h) (hn : n ≤ 99) (hhn : h + n ≤ 20000) (h4 : tw = 4 → wX S w 6 < 9) :
    ∃ S1, fX0_passAll 52 w (nI n) how S = some S1 ∧ wX S1 w = passN T tw dr n (wX S w) ∧ Fr (PX w) S S1 :=
  X_all_go hw hW hh (by omega) n 0 1000 h S (Nat.zero_add _).symm (by omega) hX et hk e3 hhn h4
theorem M_on_go {n : Nat} {T : TT} {tw : Int32} (hW : WT T) (hn : n < 2 ^ 31) : ∀ (d i fuel h : Nat) (S : MS), n = i + d → d < fuel → MO S → tM S = T → WOK T (wM S 1) → wM S 1 3 = nI h → h + d ≤ 20000 → gI S 0 57 = tw →
    ∃ S1, fX11_goesOn_2 fuel 0 (nI n) (nI i) S = some S1 ∧ wM S1 1 = passN T tw false d (wM S 1) ∧ Fr (PM 1) S S1 ∧ gI S1 0 57 = tw := by
  intro d
  induction d with
  | zero =>
    intro i fuel h S e1 e2 hX et hk e3 hn ht
    obtain ⟨f, rfl⟩ : ∃ f, fuel = f + 1 := ⟨fuel - 1, by omega⟩
    refine ⟨S, ?_, rfl, Fr.rf, ht⟩
    unfold fX11_goesOn_2
    rw [e1, Nat.add_zero, if_pos (Int32.le_refl _)]
  | succ d ih =>
    intro i fuel h S e1 e2 hX et hk e3 hn ht
    obtain ⟨f, rfl⟩ : ∃ f, fuel = f + 1 := ⟨fuel - 1, by omega⟩
    have hin : ¬ nI n ≤ nI i := by rw [nI_leI (by omega) (by omega)]; omega
    unfold fX11_goesOn_2
    obtain ⟨S1, q1, q2, q3, q4⟩ := M_pass (r := 1) (dr := false) hX (by decide) et hW hk ht
    have q1' : fX11_passes 0 (1 : Int32) (0 : Int32) S = some S1 := q1
    rw [if_neg hin, q1', Option.bind_some, nI_1]
    obtain ⟨S2, r1, r2, r3, r4⟩ := ih (i + 1) f (h + 1) S1 (by omega) (by omega) (hX.fr q3) ((MO.told q3).trans et) (by rw [q2]; exact WOK_pass hW hk (lt20k e3 hn)) (by rw [q2, pass_3, e3, nI_1]) (by omega) q4
    exact ⟨S2, r1, by rw [r2, q2]; rfl, q3.tr r3, r4⟩
theorem M_on {n h : Nat} {S : MS} {T : TT} {tw : Int32} (hX : MO S) (et : tM S = T) (hW : WT T) (hk : WOK T (wM S 1)) (e3 : wM S 1 3 = nI h) (hn : n ≤ 99) (hhn : h + n ≤ 20000) (ht : gI S 0 57 = tw) :
    ∃ S1, fX11_goesOn 0 (nI n) S = some S1 ∧ wM S1 1 = passN T tw false n (wM S 1) ∧ Fr (PM 1) S S1 ∧ gI S1 0 57 = tw :=
  M_on_go hW (by omega) n 0 1000 h S (Nat.zero_add _).symm (by omega) hX et hk e3 hhn ht
