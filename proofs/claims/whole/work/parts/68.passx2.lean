/-! ===== men, steps, an hour: the class ===== -/
theorem wX_20 {S : MS} {w i : Nat} (hi : i < 4) : wX S w (20 + i) = gI S (w + 1) i := by
  unfold wX; rw [if_neg (by omega), if_pos (by omega), Nat.add_sub_cancel_left]
theorem wX_30 {S : MS} {w i : Nat} (hi : i < 4) : wX S w (30 + i) = gI S (w + 2) i := by
  unfold wX; rw [if_neg (by omega), if_neg (by omega), if_pos (by omega), Nat.add_sub_cancel_left]
theorem wX_40 {S : MS} {w i : Nat} (hi : i < 4) : wX S w (40 + i) = gI S (w + 3) i := by
  unfold wX; rw [if_neg (by omega), if_neg (by omega), if_neg (by omega), if_pos (by omega), Nat.add_sub_cancel_left]
theorem wM_20 {S : MS} {r i : Nat} (hi : i < 4) : wM S r (20 + i) = gI S 36 (4 * r + i) := by
  unfold wM; rw [if_neg (by omega), if_pos (by omega), Nat.add_sub_cancel_left]
theorem wM_30 {S : MS} {r i : Nat} (hi : i < 4) : wM S r (30 + i) = gI S 37 (4 * r + i) := by
  unfold wM; rw [if_neg (by omega), if_neg (by omega), if_pos (by omega), Nat.add_sub_cancel_left]
theorem wM_40 {S : MS} {r i : Nat} (hi : i < 4) : wM S r (40 + i) = gI S 38 (4 * r + i) := by
  unfold wM; rw [if_neg (by omega), if_neg (by omega), if_neg (by omega), if_pos (by omega), Nat.add_sub_cancel_left]
theorem X_once {x : Int32} {S : MS} : fX9_onceMore x S = some (min999 (x + 1)) := rfl
theorem TR.fr53 {S S1 : MS} {w : Nat} {fr fc : Int32} {one : Bool} (h : TR S w fr fc one) (f : Fr P53 S S1) (hw : isW w) : TR S1 w fr fc one := by
  have hge := isW_ge hw
  have e : ∀ j, gI S1 w j = gI S w j := fun j => f.2 _ _ (fun hq : w = 53 => by omega)
  unfold TR; rw [e, e, e]; exact h
theorem TR.jo {S S1 : MS} {w : Nat} {fr fc : Int32} {one : Bool} (h : TR S w fr fc one) (j : Jo S S1) : TR S1 w fr fc one := by
  unfold TR; rw [j.gI, j.gI, j.gI]; exact h
theorem TR.neo {S : MS} {w o k : Nat} {fr fc v : Int32} {one : Bool} (h : TR S w fr fc one) (ho : w ≠ o) : TR (pI S o k v) w fr fc one := by
  unfold TR; rw [gI_neo ho, gI_neo ho, gI_neo ho]; exact h
theorem nmW_up' {w : Nat → Int32} {k : Nat} {v a b c d : Int32} (h : 9 ≤ k) : nmW (up w k v) a b c d = nmW w a b c d := nmW_up (by omega) (by omega) (by omega)
theorem X_man_go {t w : Nat} {T : TT} {fr fc : Int32} {one : Bool} (hw : isW w) (hC : WC T) (hK : WK T) : ∀ (d i fuel : Nat) (S : MS), nq T 4 = i + d → d < fuel → XO t S → tX S t = T → WB (wX S w) → TR S w fr fc one →
    ∃ S1, fX0_meetMen_2 fuel 52 w (nI i) S = some S1 ∧ wX S1 w = menW T fr fc one d i (wX S w) ∧ Fr (PX w) S S1 ∧ TR S1 w fr fc one := by
  have hn := nq_le hC
  have hge := isW_ge hw
  have pw : ∀ o j, w ≤ o → o < w + 4 → PX w o j := fun o j a b => Or.inr ⟨a, b⟩
  intro d
  induction d with
  | zero =>
    intro i fuel S e1 e2 h et hb hT
    obtain ⟨f, rfl⟩ : ∃ f, fuel = f + 1 := ⟨fuel - 1, by omega⟩
    refine ⟨S, ?_, rfl, Fr.rf, hT⟩
    have es : gI S (t + 11) 3 = nI (nq T 4) := by rw [← et]; exact (nI_back (et ▸ hC 4 (by decide)).1).symm
    unfold fX0_meetMen_2 fX7_size
    rw [rx_ctold h.1, rt_6 h.1 h.1.1, es, Option.bind_some, e1, Nat.add_zero, if_pos (Int32.le_refl _)]
  | succ d ih =>
    intro i fuel S e1 e2 h et hb hT
    obtain ⟨f, rfl⟩ : ∃ f, fuel = f + 1 := ⟨fuel - 1, by omega⟩
    have es : gI S (t + 11) 3 = nI (nq T 4) := by rw [← et]; exact (nI_back (et ▸ hC 4 (by decide)).1).symm
    have hin : ¬ nI (nq T 4) ≤ nI i := by rw [nI_leI (by omega) (by omega)]; omega
    have hi4 : ¬ (4 : Int32) ≤ nI i := by rw [show (4 : Int32) = nI 4 from rfl, nI_leI (by decide) (by omega)]; omega
    have hC' : WC (tX S t) := by rw [et]; exact hC
    have hbi : bnd (nI i) 4 = true := bnd_nI (by omega) (by decide)
    have hci : (nI i).toNatClampNeg = i := nI_clamp (by omega)
    unfold fX0_meetMen_2 fX7_size fX0_meetMen_132
    have g41 := X_g_4_1 (x := nI i) h.1 h.2.1 h.1.1 hC'
    have g42 := X_g_4_2 (x := nI i) h.1 h.2.1 h.1.1 hC'
    rw [et, tb_get (by omega)] at g41 g42
    simp only [gR_pI, rx_ctold h.1, rt_6 h.1 h.1.1, es, Option.bind_some, hin, hi4, if_false, g41, g42, X_she, X_it hT, rw_0 h.1 hw, rw_1 h.1 hw, lw_1 hw, lw_2 hw, hbi, if_true, hci, nI_1]
    show ∃ S1, _ ∧ wX S1 w = menW T fr fc one d (i + 1) (manW T fr fc one i (wX S w)) ∧ _
    unfold manW
    by_cases c1 : wX S w 4 = tb T 4 i 1 ∧ wX S w 5 = tb T 4 i 2
    · rw [decide_eq_true c1, if_neg (by decide), if_pos c1, X_once, Option.bind_some]
      have e20 : gI S (w + 1) i = wX S w (20 + i) := (wX_20 (by omega)).symm
      rw [e20]
      have f1 : Fr (PX w) S (pI S (w + 1) i (min999 (wX S w (20 + i) + 1))) := Fr.rf.pI (pw _ _ (by omega) (by omega))
      have ew := wX_met (S := S) (w := w) (i := i) (v := min999 (wX S w (20 + i) + 1)) (by omega)
      obtain ⟨S1, q1, q2, q3, q4⟩ := ih (i + 1) f _ (by omega) (by omega) (h.fr hw f1) ((h.told hw f1).trans et) (by rw [ew]; exact WB_up hb (by omega) (by omega)) (hT.neo (by omega))
      exact ⟨S1, q1, by rw [q2, ew], f1.tr q3, q4⟩
    · rw [decide_eq_false c1, if_pos (show b2i false = 0 from rfl), if_neg c1]
      by_cases c2 : one = false ∧ fr = tb T 4 i 1 ∧ fc = tb T 4 i 2
      · rw [decide_eq_true c2, if_neg (by decide), if_pos c2, X_once, Option.bind_some]
        have e30 : gI S (w + 2) i = wX S w (30 + i) := (wX_30 (by omega)).symm
        rw [e30]
        have f1 : Fr (PX w) S (pI S (w + 2) i (min999 (wX S w (30 + i) + 1))) := Fr.rf.pI (pw _ _ (by omega) (by omega))
        have ew := wX_trod (S := S) (w := w) (i := i) (v := min999 (wX S w (30 + i) + 1)) (by omega)
        have g1 : gI (pI S (w + 2) i (min999 (wX S w (30 + i) + 1))) (w + 1) i = wX S w (20 + i) := by
          rw [gI_neo (by omega)]; exact (wX_20 (by omega)).symm
        have g3 : gI (pI S (w + 2) i (min999 (wX S w (30 + i) + 1))) w 3 = wX S w 3 := by rw [gI_neo (by omega)]; rfl
        have hT1 : TR (pI S (w + 2) i (min999 (wX S w (30 + i) + 1))) w fr fc one := hT.neo (by omega)
        rw [g1, gI_same]
        generalize pI S (w + 2) i (min999 (wX S w (30 + i) + 1)) = S2 at f1 ew g1 g3 hT1
        have h2 := h.fr hw f1
        have et2 : tX S2 t = T := (h.told hw f1).trans et
        have hb2 : WB (wX S2 w) := by rw [ew]; exact WB_up hb (by omega) (by omega)
        obtain ⟨S3, q1, q2, q3⟩ := X_tell (far := 0) (met := wX S w (20 + i)) (trod := min999 (wX S w (30 + i) + 1)) h2.1 hw hb2
        have f3 := q2.mo (P53_X (w := w))
        have h3 := h2.fr hw f3
        have et3 : tX S3 t = T := (h2.told hw f3).trans et2
        obtain ⟨S4, j4, q5⟩ := X_within_1 (most := 99) (without := 1) h3.1 (by rw [et3]; exact hK) h3.2.2.2.1
        have h4 := h3.jo j4
        rw [q1, Option.bind_some, q5, Option.bind_some, et3]
        unfold fX9_please
        rw [rw_2 h4.1 hw, lw_3 hw, hbi, if_pos rfl, if_pos rfl, Option.bind_some, hci]
        have ew3 : wX S3 w = wX S2 w := Fr.wld q2 (fun o j a b (hq : o = 53) => by omega)
        have ew4 : wX S4 w = up (wX S w) (30 + i) (min999 (wX S w (30 + i) + 1)) := by rw [j4.wX, ew3, ew]
        have e40 : gI S4 (w + 3) i = wX S w (40 + i) := by
          have : gI S4 (w + 3) i = wX S4 w (40 + i) := (wX_40 (by omega)).symm
          rw [this, ew4, up_ne (by omega)]
        have en : wthn (lwl T 1) (gI S3 53) 99 1 = wthn (lwl T 1) (nmW (wX S w) 0 (wX S w (20 + i)) (min999 (wX S w (30 + i) + 1)) (hr24 (wX S w 3))) 99 1 := by
          refine wthn_congr (fun j hj => ?_)
          rw [q3 j hj, ew, g3, nmW_up' (by omega)]
        rw [e40, en]
        have f4 : Fr (PX w) S S4 := (f1.tr f3).tr j4.fr
        rw [show (if wX S w (40 + i) + wthn (lwl T 1) (nmW (wX S w) 0 (wX S w (20 + i)) (min999 (wX S w (30 + i) + 1)) (hr24 (wX S w 3))) 99 1 < 999 then wX S w (40 + i) + wthn (lwl T 1) (nmW (wX S w) 0 (wX S w (20 + i)) (min999 (wX S w (30 + i) + 1)) (hr24 (wX S w 3))) 99 1 else 999) = min999 (wX S w (40 + i) + wthn (lwl T 1) (nmW (wX S w) 0 (wX S w (20 + i)) (min999 (wX S w (30 + i) + 1)) (hr24 (wX S w 3))) 99 1) from rfl]
        generalize min999 (wX S w (40 + i) + wthn (lwl T 1) (nmW (wX S w) 0 (wX S w (20 + i)) (min999 (wX S w (30 + i) + 1)) (hr24 (wX S w 3))) 99 1) = v
        have f5 : Fr (PX w) S (pI S4 (w + 3) i v) := f4.pI (pw _ _ (by omega) (by omega))
        have ew5 : wX (pI S4 (w + 3) i v) w = up (up (wX S w) (30 + i) (min999 (wX S w (30 + i) + 1))) (40 + i) v := by rw [wX_fond (by omega), ew4]
        obtain ⟨S1, r1, r2, r3, r4⟩ := ih (i + 1) f _ (by omega) (by omega) (h.fr hw f5) ((h.told hw f5).trans et) (by rw [ew5]; exact WB_up (WB_up hb (by omega) (by omega)) (by omega) (by omega)) (((hT1.fr53 q2 hw).jo j4).neo (by omega))
        exact ⟨S1, r1, by rw [r2, ew5], f5.tr r3, r4⟩
      · rw [decide_eq_false c2, if_pos (show b2i false = 0 from rfl), if_neg c2]
        exact ih (i + 1) f S (by omega) (by omega) h et hb hT
/-- what the laws need of what is told -/
def WT (T : TT) : Prop := WC T ∧ WK T ∧ WH T ∧ WD T ∧ WL T
theorem X_rest {t w : Nat} {S : MS} {T : TT} {s : Int32} (h : XO t S) (hw : isW w) (et : tX S t = T) (hW : WT T) (hk : WOK T (wX S w)) (hT : TR S w (fallS T (wX S w) s (hr24 (wX S w 3))).1 (fallS T (wX S w) s (hr24 (wX S w 3))).2 (oneS T (wX S w) s (hr24 (wX S w 3)))) :
    ∃ S1, (if gI S w 14 = 0 then fX0_pass_88 52 w S else fX0_pass_88 52 w (pI S w 10 (gI S w 10 + 1))) = some S1 ∧ wX S1 w = restW T s (wX S w) ∧ Fr (PX w) S S1 ∧ gI S1 w 12 = gI S w 12 ∧ gI S1 w 13 = gI S w 13 := by
  obtain ⟨hC, hK, hH, hD, hL⟩ := hW
  have hge := isW_ge hw
  have hn := nq_le hC
  have pw : ∀ j, PX w w j := fun j => Or.inr ⟨Nat.le_refl _, by omega⟩
  rw [hT.1, hT.2.1]
  unfold restW
  generalize (fallS T (wX S w) s (hr24 (wX S w 3))).1 = fr at hT
  generalize (fallS T (wX S w) s (hr24 (wX S w 3))).2 = fc at hT
  generalize oneS T (wX S w) s (hr24 (wX S w 3)) = one at hT
  have core : ∀ (S2 : MS) (W2 : Nat → Int32), XO t S2 → tX S2 t = T → wX S2 w = W2 → WOK T W2 → TR S2 w fr fc one → Fr (PX w) S S2 → ∃ S1, fX0_pass_88 52 w S2 = some S1 ∧ wX S1 w = endW (menW T fr fc one (nq T 4) 0 (dosW T fr fc one (nq T 3) 0 W2)) ∧ Fr (PX w) S S1 ∧ gI S1 w 12 = fr ∧ gI S1 w 13 = fc := by
    intro S2 W2 h2 et2 ew2 hk2 hT2 f2
    unfold fX0_pass_88 fX0_finishDoings fX0_meetMen
    obtain ⟨S3, a1, a2, a3, a4⟩ := X_do_go hw hC (nq T 3) 0 1000 S2 (Nat.zero_add _).symm (by omega) h2 et2 hT2
    rw [rx_ctold h2.1, rt_5 h2.1 h2.1.1, show (0 : Int32) = nI 0 from rfl, a1, Option.bind_some]
    rw [ew2] at a2
    have hk3 : WOK T (wX S3 w) := by rw [a2]; exact WOK_dos _ _ _ (by omega) hk2
    obtain ⟨S4, b1, b2, b3, b4⟩ := X_man_go hw hC hK (nq T 4) 0 1000 S3 (Nat.zero_add _).symm (by omega) (h2.fr hw a3) ((h2.told hw a3).trans et2) hk3.2.1 a4
    rw [b1, Option.bind_some]
    rw [a2] at b2
    have e3 : gI S4 w 3 = wX S4 w 3 := rfl
    have f4 : Fr (PX w) S S4 := (f2.tr a3).tr b3
    unfold fX0_pass_115 endW
    rw [show gI S4 w 3 - gI S4 w 3 / 24 * 24 = hr24 (wX S4 w 3) from rfl, b2, show nI 0 = (0 : Int32) from rfl]
    by_cases c : hr24 (menW T fr fc one (nq T 4) 0 (dosW T fr fc one (nq T 3) 0 W2) 3) = 23
    · rw [if_pos c, if_pos c]
      refine ⟨_, rfl, ?_, (f4.pI (pw 6)).pI (pw 3), ?_, ?_⟩
      rotate_left
      · rw [gI_nek (by decide), gI_nek (by decide)]; exact b4.1
      · rw [gI_nek (by decide), gI_nek (by decide)]; exact b4.2.1
      rw [wX_own (by decide) (by decide), wX_own (by decide) (by decide), gI_nek (by decide), e3, b2]
    · rw [if_neg c, if_neg c]
      refine ⟨_, rfl, ?_, f4.pI (pw 3), ?_, ?_⟩
      rotate_left
      · rw [gI_nek (by decide)]; exact b4.1
      · rw [gI_nek (by decide)]; exact b4.2.1
      rw [wX_own (by decide) (by decide), e3, b2]
  rw [hT.2.2]
  cases one with
  | false =>
    rw [if_pos (show b2i false = 0 from rfl), if_neg (by decide)]
    exact core S _ h et rfl hk hT Fr.rf
  | true =>
    rw [if_neg (by decide), if_pos rfl]
    have f1 : Fr (PX w) S (pI S w 10 (gI S w 10 + 1)) := Fr.rf.pI (pw 10)
    exact core _ _ (h.fr hw f1) ((h.told hw f1).trans et) (wX_own (by decide) (by decide)) (WOK_up hk (by decide)) (hT.put (by decide)) f1
theorem hr24_rng {x : Int32} (h : 0 ≤ x) : 0 ≤ hr24 x ∧ hr24 x < 24 := by
  obtain ⟨k, hk, rfl⟩ := nI_of (Int32.not_lt.mpr h)
  have : k % 24 < 24 := Nat.mod_lt _ (by decide)
  rw [hr24_nI hk]
  exact ⟨nI_pos' (by omega), nI_lt this (by decide)⟩
/-- without suns clouds don't matter -/
theorem sun_none {T : TT} {a b : Bool} {tw at_ : Int32} (hL : WL T) (h0 : 0 ≤ at_) (h24 : at_ < 24) (hab : sc T 0 = 0 ∨ a = b) : sunS T a tw at_ = sunS T b tw at_ := by
  rcases hab with h | rfl
  · have hz : nq T 0 = 0 := by unfold nq; rw [h]; rfl
    have e : ∀ d, sunS T d tw at_ = -1 := fun d => by
      rcases sun_rng (dark := d) (tw := tw) hL h0 h24 with q | ⟨i, hi, -⟩
      · exact q
      · omega
    rw [e, e]
  · rfl
theorem X_stp_go {t w : Nat} {T : TT} {how tw dk : Int32} {dr dark : Bool} (hw : isW w) (hW : WT T) (hh : HW how tw dr) : ∀ (d i fuel : Nat) (S : MS), nq T 2 = i + d → d < fuel → XO t S → tX S t = T → WOK T (wX S w) → (tw = 4 → wX S w 6 < 9) →
    ∃ S1, fX0_pass_19 fuel 52 w how (b2i dark) (t + 7) (nI i) S = some S1 ∧ wX S1 w = restW T (sunS T dark tw (hr24 (stpW T tw d i (wX S w) 3))) (stpW T tw d i (wX S w)) ∧ Fr (PX w) S S1 ∧ gI S1 w 12 = (fallS T (stpW T tw d i (wX S w)) (sunS T dark tw (hr24 (stpW T tw d i (wX S w) 3))) (hr24 (stpW T tw d i (wX S w) 3))).1 ∧ gI S1 w 13 = (fallS T (stpW T tw d i (wX S w)) (sunS T dark tw (hr24 (stpW T tw d i (wX S w) 3))) (hr24 (stpW T tw d i (wX S w) 3))).2 := by
  have hn := nq_le hW.1
  intro d
  induction d with
  | zero =>
    intro i fuel S e1 e2 h et hk h4
    obtain ⟨f, rfl⟩ : ∃ f, fuel = f + 1 := ⟨fuel - 1, by omega⟩
    have es : gI S (t + 7) 3 = nI (nq T 2) := by rw [← et]; exact (nI_back (et ▸ hW.1 2 (by decide)).1).symm
    unfold fX0_pass_19 fX7_size
    rw [es, Option.bind_some, e1, Nat.add_zero, if_pos (Int32.le_refl _)]
    obtain ⟨S1, q1, q2, q3, q4, q5, q6, q7⟩ := X_fall (dark := dark) h hw (by rw [et]; exact hW.1) (by rw [et]; exact hW.2.1) (by rw [et]; exact hW.2.2.2.1) hk.2.1 (by rw [et]; exact hk.1) hk.2.2.1 hh
    rw [et] at q5 q6 q7
    rw [q1, Option.bind_some]
    have h1 := h.fr hw q3
    have et1 : tX S1 t = T := (h.told hw q3).trans et
    show ∃ S2, _ ∧ wX S2 w = restW T (sunS T dark tw (hr24 (wX S w 3))) (wX S w) ∧ _ ∧ gI S2 w 12 = (fallS T (wX S w) (sunS T dark tw (hr24 (wX S w 3))) (hr24 (wX S w 3))).1 ∧ gI S2 w 13 = (fallS T (wX S w) (sunS T dark tw (hr24 (wX S w 3))) (hr24 (wX S w 3))).2
    rw [← q2] at q5 q6 q7 hk ⊢
    obtain ⟨S2, r1, r2, r3, r4, r5⟩ := X_rest (s := sunS T dark tw (hr24 (wX S1 w 3))) h1 hw et1 hW hk ⟨q5, q6, q7⟩
    exact ⟨S2, r1, r2, q3.tr r3, r4.trans q5, r5.trans q6⟩
  | succ d ih =>
    intro i fuel S e1 e2 h et hk h4
    obtain ⟨f, rfl⟩ : ∃ f, fuel = f + 1 := ⟨fuel - 1, by omega⟩
    have es : gI S (t + 7) 3 = nI (nq T 2) := by rw [← et]; exact (nI_back (et ▸ hW.1 2 (by decide)).1).symm
    have hin : ¬ nI (nq T 2) ≤ nI i := by rw [nI_leI (by omega) (by omega)]; omega
    have hC' : WC (tX S t) := by rw [et]; exact hW.1
    have e3 : gI S w 3 = wX S w 3 := rfl
    unfold fX0_pass_19 fX7_size fX0_pass_58
    rw [es, Option.bind_some, if_neg hin, X_g_2_0 h.1 h.2.1 h.1.1 hC', Option.bind_some, X_g_2_1 h.1 h.2.1 h.1.1 hC', Option.bind_some, et, tb_get (by omega), tb_get (by omega), nI_1, e3]
    show ∃ S1, _ ∧ wX S1 w = restW T (sunS T dark tw (hr24 (stpW T tw d (i + 1) (if tb T 2 i 0 = wX S w 3 then attW T tw (tb T 2 i 1) (wX S w) else wX S w) 3))) (stpW T tw d (i + 1) (if tb T 2 i 0 = wX S w 3 then attW T tw (tb T 2 i 1) (wX S w) else wX S w)) ∧ _ ∧ gI S1 w 12 = (fallS T (stpW T tw d (i + 1) (if tb T 2 i 0 = wX S w 3 then attW T tw (tb T 2 i 1) (wX S w) else wX S w)) (sunS T dark tw (hr24 (stpW T tw d (i + 1) (if tb T 2 i 0 = wX S w 3 then attW T tw (tb T 2 i 1) (wX S w) else wX S w) 3))) (hr24 (stpW T tw d (i + 1) (if tb T 2 i 0 = wX S w 3 then attW T tw (tb T 2 i 1) (wX S w) else wX S w) 3))).1 ∧ gI S1 w 13 = (fallS T (stpW T tw d (i + 1) (if tb T 2 i 0 = wX S w 3 then attW T tw (tb T 2 i 1) (wX S w) else wX S w)) (sunS T dark tw (hr24 (stpW T tw d (i + 1) (if tb T 2 i 0 = wX S w 3 then attW T tw (tb T 2 i 1) (wX S w) else wX S w) 3))) (hr24 (stpW T tw d (i + 1) (if tb T 2 i 0 = wX S w 3 then attW T tw (tb T 2 i 1) (wX S w) else wX S w) 3))).2
    by_cases c : tb T 2 i 0 = wX S w 3
    · rw [if_pos c, if_pos c]
      obtain ⟨S2, q1, q2, q3⟩ := X_attempt (way := tb T 2 i 1) h hw (by rw [et]; exact hW.2.2.2.1) (by rw [et]; exact hW.2.1) hk.2.1 hh h4
      rw [et] at q2
      rw [q1, Option.bind_some]
      obtain ⟨S1, r1, r2, r3, r4, r5⟩ := ih (i + 1) f S2 (by omega) (by omega) (h.fr hw q3) ((h.told hw q3).trans et) (by rw [q2]; exact WOK_att hk) (fun c4 => by rw [q2, c4, att_6]; exact h4 c4)
      rw [q2] at r2 r4 r5
      exact ⟨S1, r1, r2, q3.tr r3, r4, r5⟩
    · rw [if_neg c, if_neg c]
      exact ih (i + 1) f S (by omega) (by omega) h et hk h4
/-- where it fell in an hour -/
def fpW (T : TT) (tw : Int32) (dr : Bool) (w : Nat → Int32) : Int32 × Int32 := fallS T (stpW T tw (nq T 2) 0 (cloudW T tw dr w)) (sunS T (cloudB T tw dr w) tw (hr24 (stpW T tw (nq T 2) 0 (cloudW T tw dr w) 3))) (hr24 (stpW T tw (nq T 2) 0 (cloudW T tw dr w) 3))
theorem X_pass2 {t w : Nat} {S : MS} {T : TT} {how tw : Int32} {dr : Bool} (h : XO t S) (hw : isW w) (et : tX S t = T) (hW : WT T) (hk : WOK T (wX S w)) (hh : HW how tw dr) (h4 : tw = 4 → wX S w 6 < 9) :
    ∃ S1, fX0_pass 52 w how S = some S1 ∧ wX S1 w = passW T tw dr (wX S w) ∧ Fr (PX w) S S1 ∧ gI S1 w 12 = (fpW T tw dr (wX S w)).1 ∧ gI S1 w 13 = (fpW T tw dr (wX S w)).2 := by
  have hn := nq_le hW.1
  obtain ⟨S1, dark, q1, q2, q3, q4⟩ := X_clouds h hw hh
  rw [et] at q2 q4
  have h1 := h.fr hw q3
  have et1 : tX S1 t = T := (h.told hw q3).trans et
  unfold fX0_pass
  rw [q1, Option.bind_some]
  simp only
  rw [rx_ctold h1.1, rt_4 h1.1 h1.1.1]
  obtain ⟨S2, r1, r2, r3, r4, r5⟩ := X_stp_go (dk := 0) (dark := dark) hw hW hh (nq T 2) 0 1000 S1 (Nat.zero_add _).symm (by omega) h1 et1 (by rw [q2]; exact WOK_cloud hk) (fun c4 => by rw [q2, cloud_6]; exact h4 c4)
  have hk2 : WOK T (stpW T tw (nq T 2) 0 (cloudW T tw dr (wX S w))) := WOK_stp _ _ _ (WOK_cloud hk)
  have hr := hr24_rng hk2.2.2.1
  rw [q2, sun_none hW.2.2.2.2 hr.1 hr.2 q4] at r2 r4 r5
  exact ⟨S2, r1, r2, q3.tr r3, r4, r5⟩
theorem X_pass {t w : Nat} {S : MS} {T : TT} {how tw : Int32} {dr : Bool} (h : XO t S) (hw : isW w) (et : tX S t = T) (hW : WT T) (hk : WOK T (wX S w)) (hh : HW how tw dr) (h4 : tw = 4 → wX S w 6 < 9) :
    ∃ S1, fX0_pass 52 w how S = some S1 ∧ wX S1 w = passW T tw dr (wX S w) ∧ Fr (PX w) S S1 := by
  obtain ⟨S1, q1, q2, q3, -, -⟩ := X_pass2 h hw et hW hk hh h4
  exact ⟨S1, q1, q2, q3⟩
