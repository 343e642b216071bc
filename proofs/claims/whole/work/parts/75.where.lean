/-! ===== where both are; what the laws say ===== -/
theorem HW00 : HW 0 0 false := by unfold HW; decide
theorem HW10 : HW 1 0 true := by unfold HW; decide
theorem HW21 : HW 2 1 false := by unfold HW; decide
theorem HW43 : HW 4 3 false := by unfold HW; decide
theorem HW84 : HW 8 4 false := by unfold HW; decide
theorem HW165 : HW 16 5 false := by unfold HW; decide
theorem HW02 : HW 0 2 false := by unfold HW; decide
/-- whether there are clouds as it goes -/
def drk (T : TT) : Bool := decide (¬ sc T 13 < 50)
def sunN (T : TT) (w : Nat → Int32) : Int32 := sunS T (drk T) 0 (hr24 (w 3))
theorem X_fallNow {t w : Nat} {S : MS} {T : TT} (h : XO t S) (hw : isW w) (et : tX S t = T) (hW : WT T) (hk : WOK T (wX S w)) :
    ∃ S1, fX0_fallNow 52 w S = some S1 ∧ wX S1 w = wX S w ∧ Fr (PX w) S S1 ∧ gI S1 w 15 = (lightS T (wX S w) (sunN T (wX S w))).2 ∧ gI S1 w 12 = (fallS T (wX S w) (sunN T (wX S w)) (hr24 (wX S w 3))).1 ∧ gI S1 w 13 = (fallS T (wX S w) (sunN T (wX S w)) (hr24 (wX S w 3))).2 ∧ gI S1 w 14 = b2i (oneS T (wX S w) (sunN T (wX S w)) (hr24 (wX S w 3))) := by
  have e13 : gI S t 13 = sc T 13 := by rw [← et]; rfl
  obtain ⟨S1, q1, q2, q3, q4, q5, q6, q7⟩ := X_fall (dark := drk T) h hw (by rw [et]; exact hW.1) (by rw [et]; exact hW.2.1) (by rw [et]; exact hW.2.2.2.1) hk.2.1 (by rw [et]; exact hk.1) hk.2.2.1 HW00
  rw [et] at q4 q5 q6 q7
  refine ⟨S1, ?_, q2, q3, q4, q5, q6, q7⟩
  unfold fX0_fallNow fX0_fallNow_19
  rw [rx_ctold h.1, e13]
  unfold drk at q1
  by_cases c : sc T 13 < 50
  · rw [decide_eq_false (fun hh => hh c)] at q1
    rw [if_pos c, show (0 : Int32) = b2i false from rfl]
    have q1' : fX0_fall 52 w (b2i false) (b2i false) S = some S1 := q1
    rw [q1']; rfl
  · rw [decide_eq_true c] at q1
    rw [if_neg c]
    have q1' : fX0_fall 52 w (1 : Int32) (0 : Int32) S = some S1 := q1
    rw [q1']; rfl
theorem cloud_now {T : TT} {w : Nat → Int32} : cloudW T 0 false w = w ∧ (sc T 0 = 0 ∨ cloudB T 0 false w = drk T) := by
  unfold cloudW cloudB drk
  by_cases c : sc T 0 = 0
  · exact ⟨by rw [if_pos (Or.inl c)], Or.inl c⟩
  · have c' : ¬ (sc T 0 = 0 ∨ (0 : Int32) = 1) := fun hh => hh.elim c (by decide)
    exact ⟨by rw [if_neg c', if_pos (Or.inl rfl)], Or.inr (by rw [if_neg c', if_pos (Or.inl rfl)])⟩
theorem PM0_Q : ∀ o j, PM 0 o j → QM o j := fun o j h => by unfold PM at h; unfold QM; omega
theorem PM1_Q : ∀ o j, PM 1 o j → QM o j := fun o j h => by unfold PM at h; unfold QM; omega
theorem PFM_Q : ∀ o j, PFM o j → QM o j := fun o j h => by unfold PFM at h; unfold QM; omega
theorem PL1_Q : ∀ o j, PL1 o j → QM o j := fun o j h => by unfold PL1 at h; unfold QM; omega
theorem PL1_FM : ∀ o j, PL1 o j → PFM o j := fun o j h => by unfold PL1 at h; unfold PFM; omega
theorem P42_Q : ∀ o j, P42 o j → QM o j := fun o j h => by unfold P42 at h; unfold QM; omega
theorem PX87_Q : ∀ o j, PX 87 o j → QX o j := fun o j h => by unfold PX at h; unfold QX; omega
theorem PX95_Q : ∀ o j, PX 95 o j → QX o j := fun o j h => by unfold PX at h; unfold QX; omega
theorem P53_Q : ∀ o j, P53 o j → QX o j := fun o j h => by unfold P53 at h; unfold QX; omega
theorem M_cloudNow {S : MS} {T : TT} (h : MO S) (et : tM S = T) (h57 : gI S 0 57 = 0) : ∃ S1, fX11_isCloudy 0 (0 : Int32) (0 : Int32) S = some (b2i (cloudB T 0 false (wM S 0)), S1) ∧ wM S1 0 = wM S 0 ∧ Fr (PM 0) S S1 := by
  obtain ⟨S1, q1, q2, q3⟩ := M_clouds (r := 0) (dr := false) h (by decide) h57
  rw [et] at q1 q2
  exact ⟨S1, q1, by rw [q2, cloud_now.1], q3⟩
theorem M_fallsNow {S : MS} {T : TT} (h : MO S) (et : tM S = T) (hW : WT T) (hk : WOK T (wM S 0)) (h57 : gI S 0 57 = 0) :
    ∃ S1, fX11_fallsNow 0 S = some S1 ∧ Fr QM S S1 ∧ wM S1 0 = wM S 0 ∧ gI S1 0 58 = (fallS T (wM S 0) (sunN T (wM S 0)) (hr24 (wM S 0 3))).1 ∧ gI S1 0 59 = (fallS T (wM S 0) (sunN T (wM S 0)) (hr24 (wM S 0 3))).2 ∧ gI S1 0 60 = b2i (oneS T (wM S 0) (sunN T (wM S 0)) (hr24 (wM S 0 3))) := by
  obtain ⟨S1, q1, q2, q3⟩ := M_cloudNow h et h57
  have h1 := h.fr q3
  have et1 : tM S1 = T := (MO.told q3).trans et
  have k57 : gI S1 0 57 = 0 := by rw [q3.2 _ _ (fun hh => by unfold PM at hh; omega)]; exact h57
  have hr := hr24_rng hk.2.2.1
  obtain ⟨S2, r1, r2, r3, r4, r5⟩ := M_falls (r := 0) (at_ := hr24 (wM S 0 3)) (dark := cloudB T 0 false (wM S 0)) h1 (by rw [et1]; exact hW.1) (by rw [et1]; exact hW.2.2.2.1) (by rw [et1]; exact hW.2.2.2.2) (by rw [et1]; exact hW.2.2.1) (by decide) (by rw [et1, q2]; exact hk.1) k57 hr.1 hr.2
  rw [et1, q2, sun_none hW.2.2.2.2 hr.1 hr.2 cloud_now.2] at r3 r4 r5
  refine ⟨S2, ?_, (q3.mo PM0_Q).tr (r2.mo PFM_Q), (wM_fr r2 PFM_w).trans q2, r3, r4, r5⟩
  unfold fX11_fallsNow
  rw [mr_43 h.1, lm_27, show bnd (0 : Int32) 23 = true from rfl, if_pos rfl, q1, Option.bind_some, show (0 : Int32).toNatClampNeg = 0 from rfl]
  have r1' : fX11_falls 0 (0 : Int32) (gI S 27 0 - gI S 27 0 / 24 * 24) (b2i (cloudB T 0 false (wM S 0))) S1 = some S2 := r1
  simp only [r1', Option.bind_some]
theorem sim_4 : Sim_4 Inv := by
  intro SX SM z0 ⟨t, T, h⟩
  have hv := h.th
  obtain ⟨hX, hM, ex, em, hW, h57, hE⟩ := hv.1
  have hw := hv.2.1.1
  have hk := hv.2.1.2.1
  obtain ⟨S1, q1, q2, q3, q4, q5, q6, q7⟩ := X_fallNow hX W87 ex hW (by rw [hw]; exact hk)
  obtain ⟨S2, r1, r2, r3, r4, r5, r6⟩ := M_fallsNow hM em hW hk h57
  have hiv : Inv S1 S2 := ⟨t, T, hv.quiet (q3.mo PX87_Q) q2 r2 r3⟩
  have hX1 := hX.1.of q3.1
  have hM2 := hM.1.of r2.1
  rw [hw] at q5 q6 q7
  rw [← r4] at q5
  rw [← r5] at q6
  rw [← r6] at q7
  have w : ∀ k, wX S1 87 k = wM S2 0 k := fun k => by rw [q2, r3, hw]
  have w4 : gI S1 87 4 = gI S2 30 0 := w 4
  have w5 : gI S1 87 5 = gI S2 31 0 := w 5
  have w6 : gI S1 87 6 = gI S2 32 0 := w 6
  unfold fX10_where fX11_where
  rw [rx_0_4 hX.1, rx_0_9 hX.1, q1, r1]
  simp only [Option.bind_some, rx_0_9 hX1, mr_46 hM2, mr_47 hM2, mr_48 hM2, lm_30, lm_31, lm_32, show bnd (0 : Int32) 23 = true from rfl, if_true, show (0 : Int32).toNatClampNeg = 0 from rfl, w4, w5, w6, q5, q6, q7]
  repeat' (first | exact ⟨_, _, rfl, rfl, rfl, hiv⟩ | split)
theorem X_wo_0 {t : Nat} {S : MS} (h : XO t S) (hk : WK (tX S t)) : ∃ S1, Jo S S1 ∧ fX0_workOut 52 (0 : Int32) S = some (lawV (lwl (tX S t) 0) (gI S 53), S1) := by
  obtain ⟨S1, h1, h2⟩ := X_work_0 h.1 h.1.1 hk h.2.2.1
  refine ⟨S1, h1, ?_⟩
  unfold fX0_workOut
  rw [rx_52_0 h.1, rx_ctold h.1, rt_7 h.1 h.1.1, lt_13 h.1.1, show bnd (0 : Int32) 3 = true from rfl, if_pos rfl, show (0 : Int32).toNatClampNeg = 0 from rfl, rl_0 h.1 h.1.1, h2]; rfl
theorem X_wo_1 {t : Nat} {S : MS} (h : XO t S) (hk : WK (tX S t)) : ∃ S1, Jo S S1 ∧ fX0_workOut 52 (1 : Int32) S = some (lawV (lwl (tX S t) 1) (gI S 53), S1) := by
  obtain ⟨S1, h1, h2⟩ := X_work_1 h.1 h.1.1 hk h.2.2.2.1
  refine ⟨S1, h1, ?_⟩
  unfold fX0_workOut
  rw [rx_52_0 h.1, rx_ctold h.1, rt_7 h.1 h.1.1, lt_13 h.1.1, show bnd (1 : Int32) 3 = true from rfl, if_pos rfl, show (1 : Int32).toNatClampNeg = 1 from rfl, rl_1 h.1 h.1.1, h2]; rfl
theorem X_wo_2 {t : Nat} {S : MS} (h : XO t S) (hk : WK (tX S t)) : ∃ S1, Jo S S1 ∧ fX0_workOut 52 (2 : Int32) S = some (lawV (lwl (tX S t) 2) (gI S 53), S1) := by
  obtain ⟨S1, h1, h2⟩ := X_work_2 h.1 h.1.1 hk h.2.2.2.2
  refine ⟨S1, h1, ?_⟩
  unfold fX0_workOut
  rw [rx_52_0 h.1, rx_ctold h.1, rt_7 h.1 h.1.1, lt_13 h.1.1, show bnd (2 : Int32) 3 = true from rfl, if_pos rfl, show (2 : Int32).toNatClampNeg = 2 from rfl, rl_2 h.1 h.1.1, h2]; rfl
theorem M_112 {S : MS} {k : Nat} {nm : Nat → Int32} (h : MO S) (hk : k < 3) (hH : WH (tM S)) (hne : lwl (tM S) k ≠ []) (hnm : ∀ j, j < 7 → gJ S 25 j = (nm j).toInt64) : ∃ S1, F42 S S1 ∧ fX11_law_112 0 (nI k) S = some (lawV (lwl (tM S) k) nm, S1) := by
  obtain ⟨S1, hF, ⟨q1, q2, q3⟩ | ⟨q1, q2⟩⟩ := M_goes h.1 hk h.2.1 ((hH k hk).resolve_left hne) hnm
  · refine ⟨S1, hF, ?_⟩
    unfold fX11_law_112
    rw [q1, Option.bind_some, if_neg one0, mr_41 (h.1.of hF.1), lm_26, show bnd (0 : Int32) 64 = true from rfl, if_pos rfl, show (0 : Int32).toNatClampNeg = 0 from rfl, q2]
  · refine ⟨S1, hF, ?_⟩
    unfold fX11_law_112
    rw [q1, Option.bind_some, if_pos rfl, q2]; rfl
theorem lawV_nil {l : List Int32} {nm : Nat → Int32} (h : l = []) : lawV l nm = -9223372036854775808 := by rw [h]; rfl
/-- one law worked out by the class -/
theorem X_lawv {t k : Nat} {S : MS} {T : TT} {far met trod : Int32} (h : XO t S) (et : tX S t = T) (hW : WT T) (hk : WOK T (wX S 87)) (hk3 : k < 3) :
    ∃ S2 S3, fX0_tell 52 87 far met trod S = some S2 ∧ RX t S2 ∧ fX0_workOut 52 (nI k) S2 = some (lawV (lwl T k) (nmW (wX S 87) far met trod (hr24 (wX S 87 3))), S3) ∧ Fr QX S S3 ∧ wX S3 87 = wX S 87 := by
  obtain ⟨S2, q1, q2, q3⟩ := X_tell (far := far) (met := met) (trod := trod) h.1 W87 hk.2.1
  have f2 := q2.mo (P53_X (w := 87))
  have h2 := h.fr W87 f2
  have et2 : tX S2 t = T := (h.told W87 f2).trans et
  have ew : wX S2 87 = wX S 87 := Fr.wld q2 (fun o j a b (hq : o = 53) => by omega)
  have hK : WK (tX S2 t) := by rw [et2]; exact hW.2.1
  have ev : ∀ k, lawV (lwl T k) (gI S2 53) = lawV (lwl T k) (nmW (wX S 87) far met trod (hr24 (wX S 87 3))) := fun k => lawV_congr q3
  have done : ∀ k S3, Jo S2 S3 → fX0_workOut 52 (nI k) S2 = some (lawV (lwl (tX S2 t) k) (gI S2 53), S3) → ∃ S2 S3, fX0_tell 52 87 far met trod S = some S2 ∧ RX t S2 ∧ fX0_workOut 52 (nI k) S2 = some (lawV (lwl T k) (nmW (wX S 87) far met trod (hr24 (wX S 87 3))), S3) ∧ Fr QX S S3 ∧ wX S3 87 = wX S 87 := fun k S3 j3 e3 =>
    ⟨S2, S3, q1, h2.1, by rw [e3, et2, ev], (q2.mo P53_Q).tr j3.fr, by rw [j3.wX, ew]⟩
  rcases (by omega : k = 0 ∨ k = 1 ∨ k = 2) with rfl | rfl | rfl
  · obtain ⟨S3, j3, e3⟩ := X_wo_0 h2 hK; exact done 0 S3 j3 e3
  · obtain ⟨S3, j3, e3⟩ := X_wo_1 h2 hK; exact done 1 S3 j3 e3
  · obtain ⟨S3, j3, e3⟩ := X_wo_2 h2 hK; exact done 2 S3 j3 e3
theorem M_lawv {k : Nat} {S : MS} {T : TT} {far met trod at_ : Int32} (h : MO S) (et : tM S = T) (hW : WT T) (hk3 : k < 3) (hne : lwl T k ≠ []) :
    ∃ S3, ((fX11_calls 0 (0 : Int32) far met trod at_ S).bind fun q => fX11_law_112 0 (nI k) q) = some (lawV (lwl T k) (nmW (wM S 0) far met trod at_), S3) ∧ Fr QM S S3 ∧ wM S3 0 = wM S 0 := by
  obtain ⟨S2, q1, j2, q3⟩ := M_calls (r := 0) (far := far) (met := met) (trod := trod) (at_ := at_) h.1 (by decide)
  have h2 : MO S2 := h.fr (r := 0) j2.fr
  have et2 : tM S2 = T := (MO.told (r := 0) j2.fr).trans et
  obtain ⟨S3, f3, q4⟩ := M_112 (k := k) h2 hk3 (by rw [et2]; exact hW.2.2.1) (by rw [et2]; exact hne) q3
  rw [et2] at q4
  have q1' : fX11_calls 0 (0 : Int32) far met trod at_ S = some S2 := q1
  exact ⟨S3, by rw [q1', Option.bind_some, q4], (j2.fr (P := QM)).tr (f3.p42.mo P42_Q), by rw [f3.wM, j2.wM]⟩
theorem i2_r {z : Int32} (h1 : ¬ z < 0) (h2 : ¬ 2 < z) : z = 0 ∨ z = 1 ∨ z = 2 := by
  have h3 : z ≤ 3 := by grind
  have := i3_r (Int32.not_lt.mp h1) h3; grind
theorem sim_9 : Sim_9 Inv := by
  intro SX SM z0 z1 ⟨t, T, h⟩
  have hv := h.th
  obtain ⟨hX, hM, ex, em, hW, h57, hE⟩ := hv.1
  have hw := hv.2.1.1
  have hk := hv.2.1.2.1
  have hkX : WOK T (wX SX 87) := by rw [hw]; exact hk
  have hC := hW.1
  have hn := nq_le hC
  have hC' : WC (tX SX t) := by rw [ex]; exact hC
  have e27 : gI (th0 SM) 27 0 = wM (th0 SM) 0 3 := rfl
  have hlaw : ∀ k, k < 3 → fX11_hasLaw 0 (nI k) (th0 SM) = some (b2i (decide (lwl T k ≠ []))) := fun k hk3 => by rw [M_hasLaw hM.1 hk3 hM.2.1, em]
  have hl0 : fX11_hasLaw 0 (0 : Int32) (th0 SM) = some (b2i (decide (lwl T 0 ≠ []))) := hlaw 0 (by decide)
  have hl1 : fX11_hasLaw 0 (1 : Int32) (th0 SM) = some (b2i (decide (lwl T 1 ≠ []))) := hlaw 1 (by decide)
  have hl2 : fX11_hasLaw 0 (2 : Int32) (th0 SM) = some (b2i (decide (lwl T 2 ≠ []))) := hlaw 2 (by decide)
  unfold fX10_law fX11_law
  by_cases c1 : z0 < 0
  · rw [if_pos c1, if_neg (by rintro rfl; exact absurd c1 (by decide)), if_neg (by rintro rfl; exact absurd c1 (by decide)), if_neg (by rintro rfl; exact absurd c1 (by decide))]
    exact ⟨_, _, rfl, rfl, rfl, t, T, hv⟩
  by_cases c2 : 2 < z0
  · rw [if_neg c1, if_pos c2, if_neg (by rintro rfl; exact absurd c2 (by decide)), if_neg (by rintro rfl; exact absurd c2 (by decide)), if_neg (by rintro rfl; exact absurd c2 (by decide))]
    exact ⟨_, _, rfl, rfl, rfl, t, T, hv⟩
  rw [if_neg c1, if_neg c2]
  rcases i2_r c1 c2 with rfl | rfl | rfl
  · rw [if_pos rfl, hl0, if_neg (show ¬ (0 : Int32) = 1 by decide)]
    obtain ⟨S1, q1, q2, q3, q4, -, -, -⟩ := X_fallNow hX W87 ex hW hkX
    have hX1 := hX.fr W87 q3
    have ex1 : tX S1 t = T := (hX.told W87 q3).trans ex
    obtain ⟨S2, S3, a1, a2, a3, a4, a5⟩ := X_lawv (k := 0) (far := gI S1 87 15) (met := 0) (trod := 0) hX1 ex1 hW (by rw [q2]; exact hkX) (by decide)
    have fX : Fr QX SX S3 := (q3.mo PX87_Q).tr a4
    have wX3 : wX S3 87 = wX SX 87 := by rw [a5, q2]
    have a3' : fX0_workOut 52 (0 : Int32) S2 = _ := a3
    simp only [rx_0_4 hX.1, rx_0_9 hX.1, q1, Option.bind_some, rx_0_4 hX1.1, rx_0_9 hX1.1, a1, rx_0_4 a2, a3']
    rw [q2, q4, hw]
    by_cases hne : lwl T 0 = []
    · rw [decide_eq_false (fun hh => hh hne), if_pos b2i_f]
      exact ⟨_, _, rfl, rfl, lawV_nil hne, t, T, hv.quiet fX wX3 Fr.rf rfl⟩
    · rw [decide_eq_true hne, if_neg b2i_t]
      unfold fX11_law_39
      have hr := hr24_rng hk.2.2.1
      obtain ⟨M1, m1, m2, m3⟩ := M_cloudNow hM em h57
      have hM1 := hM.fr m3
      have em1 : tM M1 = T := (MO.told m3).trans em
      have k57 : gI M1 0 57 = 0 := by rw [m3.2 _ _ (fun hh => by unfold PM at hh; omega)]; exact h57
      obtain ⟨M2, n1, n2, -, -⟩ := M_light (r := 0) (at_ := hr24 (wM (th0 SM) 0 3)) (dark := cloudB T 0 false (wM (th0 SM) 0)) hM1 (by rw [em1]; exact hC) (by rw [em1]; exact hW.2.2.2.1) (by rw [em1]; exact hW.2.2.2.2) (by decide) (by rw [em1, m2]; exact hk.1) k57 hr.1 hr.2
      rw [em1, m2, sun_none hW.2.2.2.2 hr.1 hr.2 cloud_now.2] at n1
      have f2 : Fr PFM M1 M2 := n2.mo PL1_FM
      have em2 : tM M2 = T := (Fr.toldM f2 PFM_t).trans em1
      have w2 : wM M2 0 = wM (th0 SM) 0 := (wM_fr f2 PFM_w).trans m2
      obtain ⟨M3, o1, o2, o3⟩ := M_lawv (k := 0) (far := (lightS T (wM (th0 SM) 0) (sunN T (wM (th0 SM) 0))).2) (met := 0) (trod := 0) (at_ := hr24 (wM (th0 SM) 0 3)) (hM1.fm f2) em2 hW (by decide) hne
      rw [w2] at o1 o3
      unfold fX11_law_106
      have n1' : fX11_lightFar 0 (0 : Int32) (gI (th0 SM) 27 0 - gI (th0 SM) 27 0 / 24 * 24) (b2i (cloudB T 0 false (wM (th0 SM) 0))) M1 = some ((lightS T (wM (th0 SM) 0) (sunN T (wM (th0 SM) 0))).2, M2) := n1
      rw [mr_43 hM.1, lm_27, show bnd (0 : Int32) 23 = true from rfl, if_pos rfl, if_neg (show ¬ (0 : Int32) = 1 by decide), if_pos rfl, m1, Option.bind_some, show (0 : Int32).toNatClampNeg = 0 from rfl]
      simp only [n1', Option.bind_some]
      have o1' : ((fX11_calls 0 (0 : Int32) (lightS T (wM (th0 SM) 0) (sunN T (wM (th0 SM) 0))).2 0 0 (gI (th0 SM) 27 0 - gI (th0 SM) 27 0 / 24 * 24) M2).bind fun q => fX11_law_112 0 (0 : Int32) q) = some (lawV (lwl T 0) (nmW (wM (th0 SM) 0) (lightS T (wM (th0 SM) 0) (sunN T (wM (th0 SM) 0))).2 0 0 (hr24 (wM (th0 SM) 0 3))), M3) := o1
      rw [o1']
      exact ⟨_, _, rfl, rfl, rfl, t, T, hv.quiet fX wX3 ((m3.mo PM0_Q).tr ((n2.mo PL1_Q).tr o2)) o3⟩
  · rw [if_neg (show ¬ (1 : Int32) = 0 by decide), if_pos rfl, hl1, if_pos rfl, X_isMan hX hC', M_isMan hM.1, ex, em]
    by_cases hz : 0 ≤ z1 ∧ z1 < sc T 4
    · rw [decide_eq_true hz]
      obtain ⟨i, hi, -, rfl⟩ := idx_of hC (by decide) hz
      have x1 : gI SX 88 i = wM (th0 SM) 0 (20 + i) := by rw [← hw]; exact (wX_20 (S := SX) (w := 87) (by omega)).symm
      have x2 : gI SX 89 i = wM (th0 SM) 0 (30 + i) := by rw [← hw]; exact (wX_30 (S := SX) (w := 87) (by omega)).symm
      have y1 : gI (th0 SM) 36 i = wM (th0 SM) 0 (20 + i) := by rw [wM_20 (by omega), Nat.mul_zero, Nat.zero_add]
      have y2 : gI (th0 SM) 37 i = wM (th0 SM) 0 (30 + i) := by rw [wM_30 (by omega), Nat.mul_zero, Nat.zero_add]
      obtain ⟨S2, S3, a1, a2, a3, a4, a5⟩ := X_lawv (k := 1) (far := 0) (met := wM (th0 SM) 0 (20 + i)) (trod := min999 (wM (th0 SM) 0 (30 + i) + 1)) hX ex hW hkX (by decide)
      have a3' : fX0_workOut 52 (1 : Int32) S2 = _ := a3
      simp only [Option.bind_some, b2i_t, if_false, rx_0_4 hX.1, rx_0_9 hX.1, rw_0 hX.1 W87, rw_1 hX.1 W87, lw_1 W87, lw_2 W87, bnd_nI (show i < 4 by omega) (by decide), if_true, nI_clamp (show i < 2 ^ 31 by omega), x1, x2, X_once, a1, rx_0_4 a2, a3']
      rw [hw]
      by_cases hne : lwl T 1 = []
      · rw [decide_eq_false (fun hh => hh hne), if_pos b2i_f]
        exact ⟨_, _, rfl, rfl, lawV_nil hne, t, T, hv.quiet a4 a5 Fr.rf rfl⟩
      · rw [decide_eq_true hne, if_neg b2i_t]
        obtain ⟨M3, o1, o2, o3⟩ := M_lawv (k := 1) (far := 0) (met := wM (th0 SM) 0 (20 + i)) (trod := min999 (wM (th0 SM) 0 (30 + i) + 1)) (at_ := hr24 (wM (th0 SM) 0 3)) hM em hW (by decide) hne
        unfold fX11_law_39
        simp only [mr_43 hM.1, mr_52 hM.1, mr_53 hM.1, lm_27, lm_36, lm_37, show bnd (0 : Int32) 23 = true from rfl, if_true, bnd_nI (show i < 92 by omega) (by decide), nI_clamp (show i < 2 ^ 31 by omega), show (0 : Int32).toNatClampNeg = 0 from rfl, y1, y2]
        have o1' : ((fX11_calls 0 (0 : Int32) 0 (wM (th0 SM) 0 (20 + i)) (if wM (th0 SM) 0 (30 + i) + 1 < 999 then wM (th0 SM) 0 (30 + i) + 1 else 999) (gI (th0 SM) 27 0 - gI (th0 SM) 27 0 / 24 * 24) (th0 SM)).bind fun q => fX11_law_112 0 (1 : Int32) q) = some (lawV (lwl T 1) (nmW (wM (th0 SM) 0) 0 (wM (th0 SM) 0 (20 + i)) (min999 (wM (th0 SM) 0 (30 + i) + 1)) (hr24 (wM (th0 SM) 0 3))), M3) := o1
        rw [o1']
        exact ⟨_, _, rfl, rfl, rfl, t, T, hv.quiet a4 a5 o2 o3⟩
    · rw [decide_eq_false hz]
      cases decide (lwl T 1 ≠ []) <;> exact ⟨_, _, rfl, rfl, rfl, t, T, hv⟩
  · rw [if_neg (show ¬ (2 : Int32) = 0 by decide), if_neg (show ¬ (2 : Int32) = 1 by decide), if_pos rfl, hl2, if_neg (show ¬ (2 : Int32) = 1 by decide)]
    obtain ⟨S2, S3, a1, a2, a3, a4, a5⟩ := X_lawv (k := 2) (far := 0) (met := 0) (trod := 0) hX ex hW hkX (by decide)
    have a3' : fX0_workOut 52 (2 : Int32) S2 = _ := a3
    simp only [rx_0_4 hX.1, rx_0_9 hX.1, a1, Option.bind_some, rx_0_4 a2, a3']
    rw [hw]
    by_cases hne : lwl T 2 = []
    · rw [decide_eq_false (fun hh => hh hne), if_pos b2i_f]
      exact ⟨_, _, rfl, rfl, lawV_nil hne, t, T, hv.quiet a4 a5 Fr.rf rfl⟩
    · rw [decide_eq_true hne, if_neg b2i_t]
      obtain ⟨M3, o1, o2, o3⟩ := M_lawv (k := 2) (far := 0) (met := 0) (trod := 0) (at_ := hr24 (wM (th0 SM) 0 3)) hM em hW (by decide) hne
      unfold fX11_law_39 fX11_law_106
      rw [mr_43 hM.1, lm_27, show bnd (0 : Int32) 23 = true from rfl, if_pos rfl, if_neg (show ¬ (2 : Int32) = 1 by decide), if_neg (show ¬ (2 : Int32) = 0 by decide), show (0 : Int32).toNatClampNeg = 0 from rfl]
      have o1' : ((fX11_calls 0 (0 : Int32) 0 0 0 (gI (th0 SM) 27 0 - gI (th0 SM) 27 0 / 24 * 24) (th0 SM)).bind fun q => fX11_law_112 0 (2 : Int32) q) = some (lawV (lwl T 2) (nmW (wM (th0 SM) 0) 0 0 0 (hr24 (wM (th0 SM) 0 3))), M3) := o1
      rw [o1']
      exact ⟨_, _, rfl, rfl, rfl, t, T, hv.quiet a4 a5 o2 o3⟩
