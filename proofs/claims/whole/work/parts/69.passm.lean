/-! ===== an hour: the reference ===== -/
def TRM (S : MS) (fr fc : Int32) (one : Bool) : Prop := gI S 0 58 = fr ∧ gI S 0 59 = fc ∧ gI S 0 60 = b2i one
theorem TRM.put {S : MS} {o k : Nat} {fr fc v : Int32} {one : Bool} (h : TRM S fr fc one) (ho : o ≠ 0) : TRM (pI S o k v) fr fc one := by
  unfold TRM; rw [gI_neo (fun e => ho e.symm), gI_neo (fun e => ho e.symm), gI_neo (fun e => ho e.symm)]; exact h
theorem TRM.jo {S S1 : MS} {fr fc : Int32} {one : Bool} (h : TRM S fr fc one) (j : Jo S S1) : TRM S1 fr fc one := by
  unfold TRM; rw [j.gI, j.gI, j.gI]; exact h
theorem TRM.f42 {S S1 : MS} {fr fc : Int32} {one : Bool} (h : TRM S fr fc one) (j : F42 S S1) : TRM S1 fr fc one := by
  have e : ∀ k, k ≠ 42 → gI S1 0 k = gI S 0 k := fun k hk => j.2 _ _ (fun hh => hk hh.2)
  unfold TRM; rw [e 58 (by decide), e 59 (by decide), e 60 (by decide)]; exact h
theorem M_her {r : Nat} {S : MS} {a b : Int32} (hM : MR S) (hr : r < 23) : fX11_isHerAt 0 (nI r) a b S = some (b2i (decide (wM S r 4 = a ∧ wM S r 5 = b))) := by
  have e4 : gI S 30 r = wM S r 4 := rfl
  have e5 : gI S 31 r = wM S r 5 := rfl
  unfold fX11_isHerAt; rw [mr_46 hM, mr_47 hM, lm_30, lm_31, bnd_nI hr (by decide), if_pos rfl, if_pos rfl, nI_clamp (by omega), e4, e5]
  by_cases c1 : wM S r 4 = a <;> by_cases c2 : wM S r 5 = b <;> simp [c1, c2, b2i]
theorem M_it {S : MS} {fr fc a b : Int32} {one : Bool} (h : TRM S fr fc one) : fX11_isItAt 0 a b S = some (b2i (decide (one = false ∧ fr = a ∧ fc = b))) := by
  unfold fX11_isItAt; rw [h.1, h.2.1, h.2.2]
  cases one <;> by_cases c1 : fr = a <;> by_cases c2 : fc = b <;> simp [c1, c2, b2i]
theorem MO.told {r : Nat} {S S1 : MS} (f : Fr (PM r) S S1) : tM S1 = tM S := Fr.toldM f PM_told
theorem M_do_go {r : Nat} {T : TT} {fr fc : Int32} {one : Bool} (hr : r < 23) (hC : WC T) : ∀ (d i fuel : Nat) (S : MS), nq T 3 = i + d → d < fuel → MO S → tM S = T → TRM S fr fc one →
    ∃ S1, fX11_doings_2 fuel 0 (nI r) (nI i) S = some S1 ∧ wM S1 r = dosW T fr fc one d i (wM S r) ∧ Fr (PM r) S S1 ∧ TRM S1 fr fc one ∧ gI S1 0 57 = gI S 0 57 := by
  have hn := nq_le hC
  intro d
  induction d with
  | zero =>
    intro i fuel S e1 e2 h et hT
    obtain ⟨f, rfl⟩ : ∃ f, fuel = f + 1 := ⟨fuel - 1, by omega⟩
    have ec : gI S 2 8 = nI (nq T 3) := by have := (M_cnt (S := S) (q := 3) (by rw [et]; exact hC) (by decide)).1; rw [et] at this; exact this
    refine ⟨S, ?_, rfl, Fr.rf, hT, rfl⟩
    unfold fX11_doings_2
    rw [mr_3 h.1, lm_2, show bnd (8 : Int32) 26 = true from rfl, if_pos rfl, show (8 : Int32).toNatClampNeg = 8 from rfl, ec, e1, Nat.add_zero, if_pos (Int32.le_refl _)]
  | succ d ih =>
    intro i fuel S e1 e2 h et hT
    obtain ⟨f, rfl⟩ : ∃ f, fuel = f + 1 := ⟨fuel - 1, by omega⟩
    have hM := h.1
    have ec : gI S 2 8 = nI (nq T 3) := by have := (M_cnt (S := S) (q := 3) (by rw [et]; exact hC) (by decide)).1; rw [et] at this; exact this
    have hin : ¬ nI (nq T 3) ≤ nI i := by rw [nI_leI (by omega) (by omega)]; omega
    have hi : i < nq (tM S) 3 := by rw [et]; omega
    have g1 : gI S 14 i = tb T 3 i 1 := by rw [← et]; exact (M_tb (q := 3) (c := 1) (by decide) (by decide) hi).symm
    have g2 : gI S 15 i = tb T 3 i 2 := by rw [← et]; exact (M_tb (q := 3) (c := 2) (by decide) (by decide) hi).symm
    have g3 : gI S 16 i = tb T 3 i 3 := by rw [← et]; exact (M_tb (q := 3) (c := 3) (by decide) (by decide) hi).symm
    have e35 : gI S 35 r = wM S r 8 := rfl
    unfold fX11_doings_2 fX11_doings_58 fX11_doings_75
    simp only [mr_3 hM, mr_15 hM, mr_16 hM, mr_17 hM, mr_51 hM, lm_2, lm_14, lm_15, lm_16, lm_35, show bnd (8 : Int32) 26 = true from rfl, if_true, show (8 : Int32).toNatClampNeg = 8 from rfl, ec, hin, if_false, bnd_nI (show i < 16 by omega) (by decide), bnd_nI hr (by decide), nI_clamp (show i < 2 ^ 31 by omega), nI_clamp (show r < 2 ^ 31 by omega), g1, g2, g3, M_her hM hr, M_it hT, Option.bind_some, nI_1, e35]
    have no := ih (i + 1) f S (by omega) (by omega) h et hT
    have yes : ∃ S1, fX11_doings_2 f 0 (nI r) (nI (i + 1)) (pI S 35 r (wM S r 8 ||| (1 <<< (nI i &&& 31)))) = some S1 ∧ wM S1 r = dosW T fr fc one d (i + 1) (up (wM S r) 8 (wM S r 8 ||| (1 <<< (nI i &&& 31)))) ∧ Fr (PM r) S S1 ∧ TRM S1 fr fc one ∧ gI S1 0 57 = gI S 0 57 := by
      have f1 : Fr (PM r) S (pI S 35 r (wM S r 8 ||| (1 <<< (nI i &&& 31)))) := Fr.rf.pI (PM_w (by decide) (by decide))
      obtain ⟨S1, q1, q2, q3, q4, q5⟩ := ih (i + 1) f _ (by omega) (by omega) (h.fr f1) ((MO.told f1).trans et) (hT.put (by decide))
      refine ⟨S1, q1, ?_, f1.tr q3, q4, by rw [q5, gI_neo (by decide)]⟩
      rw [q2, show (35 : Nat) = mWc 8 from rfl, wM_own (by decide) (by decide)]
    show ∃ S1, _ ∧ wM S1 r = dosW T fr fc one d (i + 1) (doW T fr fc one i (wM S r)) ∧ _
    unfold doW
    by_cases c0 : tb T 3 i 1 = 0
    · rw [if_pos c0, if_pos c0]
      generalize decide (wM S r 4 = tb T 3 i 2 ∧ wM S r 5 = tb T 3 i 3) = b
      cases b
      · rw [if_pos (show b2i false = 0 from rfl), if_neg (by decide)]; exact no
      · rw [if_neg (by decide), if_pos rfl]; exact yes
    · rw [if_neg c0, if_neg c0]
      generalize decide (one = false ∧ fr = tb T 3 i 2 ∧ fc = tb T 3 i 3) = b
      cases b
      · rw [if_pos (show b2i false = 0 from rfl), if_neg (by decide)]; exact no
      · rw [if_neg (by decide), if_pos rfl]; exact yes
theorem idx4 (r i : Nat) : 4 * nI r + nI i = nI (4 * r + i) := by
  rw [show (4 : Int32) = nI 4 from rfl, nI_mul, nI_add]
theorem PM_a {r o i : Nat} (h1 : 36 ≤ o) (h2 : o < 39) (hi : i < 4) : PM r o (4 * r + i) := Or.inr (Or.inr ⟨h1, h2, by omega, by omega⟩)
theorem M_meets {r i : Nat} {S : MS} {T : TT} {fr fc : Int32} {one : Bool} (hr : r < 23) (hC : WC T) (hH : WH T) (hi : i < nq T 4) (h : MO S) (et : tM S = T) (hT : TRM S fr fc one) :
    ∃ S1, fX11_meets 0 (nI r) (nI i) S = some S1 ∧ wM S1 r = manW T fr fc one i (wM S r) ∧ Fr (PM r) S S1 ∧ TRM S1 fr fc one ∧ gI S1 0 57 = gI S 0 57 := by
  have hn := nq_le hC
  have hM := h.1
  have hi' : i < nq (tM S) 4 := by rw [et]; exact hi
  have g1 : gI S 19 i = tb T 4 i 1 := by rw [← et]; exact (M_tb (q := 4) (c := 1) (by decide) (by decide) hi').symm
  have g2 : gI S 20 i = tb T 4 i 2 := by rw [← et]; exact (M_tb (q := 4) (c := 2) (by decide) (by decide) hi').symm
  have b92 : bnd (nI (4 * r + i)) 92 = true := bnd_nI (by omega) (by decide)
  have c92 : (nI (4 * r + i)).toNatClampNeg = 4 * r + i := nI_clamp (by omega)
  unfold fX11_meets fX11_meets_87
  simp only [gR_pI, mr_20 hM, mr_21 hM, mr_52 hM, mr_53 hM, mr_43 hM, lm_19, lm_20, lm_36, lm_37, lm_27, bnd_nI (show i < 8 by omega) (by decide), if_true, nI_clamp (show i < 2 ^ 31 by omega), g1, g2, M_her hM hr, M_it hT, Option.bind_some, idx4, b92, c92, bnd_nI hr (by decide), nI_clamp (show r < 2 ^ 31 by omega), ← wM_20 (S := S) (r := r) (show i < 4 by omega), ← wM_30 (S := S) (r := r) (show i < 4 by omega), gI_same]
  unfold manW
  by_cases c1 : wM S r 4 = tb T 4 i 1 ∧ wM S r 5 = tb T 4 i 2
  · rw [decide_eq_true c1, if_neg (by decide), if_pos c1]
    refine ⟨_, rfl, ?_, Fr.rf.pI (PM_a (by decide) (by decide) (by omega)), hT.put (by decide), gI_neo (by decide)⟩
    rw [wM_met (by omega)]; rfl
  · rw [decide_eq_false c1, if_pos (show b2i false = 0 from rfl), if_neg c1]
    by_cases c2 : one = false ∧ fr = tb T 4 i 1 ∧ fc = tb T 4 i 2
    · rw [decide_eq_true c2, if_neg (by decide), if_pos c2]
      rw [show (if wM S r (30 + i) + 1 < 999 then wM S r (30 + i) + 1 else 999) = min999 (wM S r (30 + i) + 1) from rfl]
      have f1 : Fr (PM r) S (pI S 37 (4 * r + i) (min999 (wM S r (30 + i) + 1))) := Fr.rf.pI (PM_a (by decide) (by decide) (by omega))
      have ew := wM_trod (S := S) (r := r) (i := i) (v := min999 (wM S r (30 + i) + 1)) (by omega)
      have k36 : gI (pI S 37 (4 * r + i) (min999 (wM S r (30 + i) + 1))) 36 (4 * r + i) = wM S r (20 + i) := by rw [gI_neo (by decide)]; exact (wM_20 (by omega)).symm
      have k27 : gI (pI S 37 (4 * r + i) (min999 (wM S r (30 + i) + 1))) 27 r = wM S r 3 := by rw [gI_neo (by decide)]; rfl
      have k57 : gI (pI S 37 (4 * r + i) (min999 (wM S r (30 + i) + 1))) 0 57 = gI S 0 57 := gI_neo (by decide)
      have hT1 : TRM (pI S 37 (4 * r + i) (min999 (wM S r (30 + i) + 1))) fr fc one := hT.put (by decide)
      rw [k36, k27]
      generalize pI S 37 (4 * r + i) (min999 (wM S r (30 + i) + 1)) = S2 at f1 ew k57 hT1
      rw [show wM S r 3 - wM S r 3 / 24 * 24 = hr24 (wM S r 3) from rfl]
      have h2 := h.fr f1
      have et2 : tM S2 = T := (MO.told f1).trans et
      obtain ⟨S3, q1, j3, q3⟩ := M_calls (far := 0) (met := wM S r (20 + i)) (trod := min999 (wM S r (30 + i) + 1)) (at_ := hr24 (wM S r 3)) h2.1 hr
      rw [ew, nmW_up' (by omega)] at q3
      have h3 : MO S3 := h2.fr (r := r) j3.fr
      have et3 : tM S3 = T := (MO.told (r := r) j3.fr).trans et2
      obtain ⟨S4, f4, q5⟩ := M_within (k := 1) (most := 99) (without := 1) (nm := nmW (wM S r) 0 (wM S r (20 + i)) (min999 (wM S r (30 + i) + 1)) (hr24 (wM S r 3))) h3.1 (by decide) h3.2.1 (by rw [et3]; exact hH) q3
      rw [et3] at q5
      have e38 : gI S3 38 (4 * r + i) = wM S r (40 + i) := by
        rw [← wM_40 (by omega), j3.wM, ew, up_ne (by omega)]
      have q5' : fX11_within 0 (1 : Int32) 99 1 S3 = some (wthn (lwl T 1) (nmW (wM S r) 0 (wM S r (20 + i)) (min999 (wM S r (30 + i) + 1)) (hr24 (wM S r 3))) 99 1, S4) := q5
      rw [q1, Option.bind_some, mr_54 h3.1, lm_38, b92, if_pos rfl, q5', Option.bind_some, if_pos rfl, e38]
      have f5 : Fr (PM r) S S4 := (f1.tr j3.fr).tr f4.fr
      have ew4 : wM S4 r = up (wM S r) (30 + i) (min999 (wM S r (30 + i) + 1)) := by rw [f4.wM, j3.wM, ew]
      refine ⟨_, rfl, ?_, f5.pI (PM_a (by decide) (by decide) (by omega)), ((hT1.jo j3).f42 f4).put (by decide), ?_⟩
      · rw [wM_fond (by omega), ew4]; rfl
      · rw [gI_neo (by decide), f4.2 _ _ (fun hh => by have := hh.2; omega), j3.gI, k57]
    · rw [decide_eq_false c2, if_pos (show b2i false = 0 from rfl), if_neg c2]
      exact ⟨S, rfl, rfl, Fr.rf, hT, rfl⟩
theorem M_end {r : Nat} {S : MS} (h : MO S) (hr : r < 23) : ∃ S1, (if bnd (nI r) (lnM (gR S 0 43)) = true then (if gI S (gR S 0 43) (nI r).toNatClampNeg - gI S (gR S 0 43) (nI r).toNatClampNeg / 24 * 24 = 23 then (if bnd (nI r) (lnM (gR S 0 48)) = true then fX11_passes_146 0 (nI r) (pI S (gR S 0 48) (nI r).toNatClampNeg 0) else none) else fX11_passes_146 0 (nI r) S) else none) = some S1 ∧ wM S1 r = endW (wM S r) ∧ Fr (PM r) S S1 ∧ (∀ j, gI S1 0 j = gI S 0 j) := by
  have hM := h.1
  have e3 : gI S 27 r = wM S r 3 := rfl
  unfold fX11_passes_146 endW
  simp only [gR_pI, mr_43 hM, mr_48 hM, lm_27, lm_32, bnd_nI hr (by decide), if_true, nI_clamp (show r < 2 ^ 31 by omega), e3]
  rw [show wM S r 3 - wM S r 3 / 24 * 24 = hr24 (wM S r 3) from rfl]
  by_cases c : hr24 (wM S r 3) = 23
  · rw [if_pos c, if_pos c]
    refine ⟨_, rfl, ?_, (Fr.rf.pI (PM_w (by decide) (by decide))).pI (PM_w (by decide) (by decide)), ?_⟩
    · rw [show (27 : Nat) = mWc 3 from rfl, wM_own (by decide) (by decide), show (32 : Nat) = mWc 6 from rfl, wM_own (by decide) (by decide), show mWc 6 = 32 from rfl, show mWc 3 = 27 from rfl, gI_neo (by decide), e3]
    · intro j; rw [gI_neo (by decide), gI_neo (by decide)]
  · rw [if_neg c, if_neg c]
    refine ⟨_, rfl, ?_, Fr.rf.pI (PM_w (by decide) (by decide)), ?_⟩
    · rw [show (27 : Nat) = mWc 3 from rfl, wM_own (by decide) (by decide)]
    · intro j; rw [gI_neo (by decide)]
theorem M_men_go {r : Nat} {T : TT} {fr fc : Int32} {one : Bool} (hr : r < 23) (hC : WC T) (hH : WH T) : ∀ (d i fuel : Nat) (S : MS), nq T 4 = i + d → d < fuel → MO S → tM S = T → TRM S fr fc one →
    ∃ S1, fX11_passes_100 fuel 0 (nI r) (nI i) S = some S1 ∧ wM S1 r = endW (menW T fr fc one d i (wM S r)) ∧ Fr (PM r) S S1 ∧ gI S1 0 57 = gI S 0 57 ∧ gI S1 0 58 = fr ∧ gI S1 0 59 = fc := by
  have hn := nq_le hC
  intro d
  induction d with
  | zero =>
    intro i fuel S e1 e2 h et hT
    obtain ⟨f, rfl⟩ : ∃ f, fuel = f + 1 := ⟨fuel - 1, by omega⟩
    have ec : gI S 2 9 = nI (nq T 4) := by have := (M_cnt (S := S) (q := 4) (by rw [et]; exact hC) (by decide)).1; rw [et] at this; exact this
    unfold fX11_passes_100
    rw [mr_3 h.1, lm_2, show bnd (9 : Int32) 26 = true from rfl, if_pos rfl, show (9 : Int32).toNatClampNeg = 9 from rfl, ec, e1, Nat.add_zero, if_pos (Int32.le_refl _)]
    obtain ⟨S1, z1, z2, z3, z4⟩ := M_end h hr
    exact ⟨S1, z1, z2, z3, z4 57, (z4 58).trans hT.1, (z4 59).trans hT.2.1⟩
  | succ d ih =>
    intro i fuel S e1 e2 h et hT
    obtain ⟨f, rfl⟩ : ∃ f, fuel = f + 1 := ⟨fuel - 1, by omega⟩
    have ec : gI S 2 9 = nI (nq T 4) := by have := (M_cnt (S := S) (q := 4) (by rw [et]; exact hC) (by decide)).1; rw [et] at this; exact this
    have hin : ¬ nI (nq T 4) ≤ nI i := by rw [nI_leI (by omega) (by omega)]; omega
    unfold fX11_passes_100
    obtain ⟨S2, q1, q2, q3, q4, q5⟩ := M_meets hr hC hH (show i < nq T 4 by omega) h et hT
    rw [mr_3 h.1, lm_2, show bnd (9 : Int32) 26 = true from rfl, if_pos rfl, show (9 : Int32).toNatClampNeg = 9 from rfl, ec, if_neg hin, q1, Option.bind_some, nI_1]
    obtain ⟨S1, r1, r2, r3, r4, r5⟩ := ih (i + 1) f S2 (by omega) (by omega) (h.fr q3) ((MO.told q3).trans et) q4
    exact ⟨S1, r1, by rw [r2, q2]; rfl, q3.tr r3, r4.trans q5, r5⟩
theorem up_self {w : Nat → Int32} {k : Nat} : up w k (w k + 0) = w := by
  funext j; unfold up; split
  · rename_i h; rw [h, add0]
  · rfl
theorem M_stp_go {r : Nat} {T : TT} {tw : Int32} {dark : Bool} (hr : r < 23) (hW : WT T) : ∀ (d i fuel : Nat) (S : MS), nq T 2 = i + d → d < fuel → MO S → tM S = T → WOK T (wM S r) → gI S 0 57 = tw →
    ∃ S1, fX11_passes_10 fuel 0 (nI r) (b2i dark) (nI i) S = some S1 ∧ wM S1 r = restW T (sunS T dark tw (hr24 (stpW T tw d i (wM S r) 3))) (stpW T tw d i (wM S r)) ∧ Fr (PM r) S S1 ∧ gI S1 0 57 = tw ∧ gI S1 0 58 = (fallS T (stpW T tw d i (wM S r)) (sunS T dark tw (hr24 (stpW T tw d i (wM S r) 3))) (hr24 (stpW T tw d i (wM S r) 3))).1 ∧ gI S1 0 59 = (fallS T (stpW T tw d i (wM S r)) (sunS T dark tw (hr24 (stpW T tw d i (wM S r) 3))) (hr24 (stpW T tw d i (wM S r) 3))).2 := by
  have hn := nq_le hW.1
  intro d
  induction d with
  | zero =>
    intro i fuel S e1 e2 h et hk ht
    obtain ⟨f, rfl⟩ : ∃ f, fuel = f + 1 := ⟨fuel - 1, by omega⟩
    have ec : gI S 2 7 = nI (nq T 2) := by have := (M_cnt (S := S) (q := 2) (by rw [et]; exact hW.1) (by decide)).1; rw [et] at this; exact this
    have e3 : gI S 27 r = wM S r 3 := rfl
    have hrr := hr24_rng hk.2.2.1
    obtain ⟨S1, q1, q2, q3, q4, q5⟩ := M_falls (dark := dark) h (by rw [et]; exact hW.1) (by rw [et]; exact hW.2.2.2.1) (by rw [et]; exact hW.2.2.2.2) (by rw [et]; exact hW.2.2.1) hr (by rw [et]; exact hk.1) ht hrr.1 hrr.2
    rw [et] at q3 q4 q5
    unfold fX11_passes_10 fX11_passes_90 fX11_doings
    rw [mr_3 h.1, lm_2, show bnd (7 : Int32) 26 = true from rfl, if_pos rfl, show (7 : Int32).toNatClampNeg = 7 from rfl, ec, e1, Nat.add_zero, if_pos (Int32.le_refl _), mr_43 h.1, lm_27, bnd_nI hr (by decide), if_pos rfl, nI_clamp (by omega), e3]
    rw [show wM S r 3 - wM S r 3 / 24 * 24 = hr24 (wM S r 3) from rfl, q1, Option.bind_some]
    have f1 : Fr (PM r) S S1 := q2.mo PFM_M
    have h1 := h.fr f1
    have et1 : tM S1 = T := (MO.told f1).trans et
    have ew1 : wM S1 r = wM S r := wM_fr q2 PFM_w
    have k57 : gI S1 0 57 = tw := by rw [q2.2 _ _ (fun hh => by have := hh.2; omega)]; exact ht
    show ∃ S2, _ ∧ wM S2 r = restW T (sunS T dark tw (hr24 (wM S r 3))) (wM S r) ∧ _ ∧ _ ∧ gI S2 0 58 = (fallS T (wM S r) (sunS T dark tw (hr24 (wM S r 3))) (hr24 (wM S r 3))).1 ∧ gI S2 0 59 = (fallS T (wM S r) (sunS T dark tw (hr24 (wM S r 3))) (hr24 (wM S r 3))).2
    unfold restW
    generalize sunS T dark tw (hr24 (wM S r 3)) = s at q3 q4 q5
    generalize (fallS T (wM S r) s (hr24 (wM S r 3))).1 = fr at q3
    generalize (fallS T (wM S r) s (hr24 (wM S r 3))).2 = fc at q4
    generalize oneS T (wM S r) s (hr24 (wM S r 3)) = one at q5
    have core : ∀ (v : Int32) (W2 : Nat → Int32), up (wM S r) 10 v = W2 → ∃ S2, ((fX11_doings_2 1000 0 (nI r) (nI 0) (pI S1 33 r v)).bind fun q15 => fX11_passes_100 1000 0 (nI r) (nI 0) q15) = some S2 ∧ wM S2 r = endW (menW T fr fc one (nq T 4) 0 (dosW T fr fc one (nq T 3) 0 W2)) ∧ Fr (PM r) S S2 ∧ gI S2 0 57 = tw ∧ gI S2 0 58 = fr ∧ gI S2 0 59 = fc := by
      intro v W2 hv
      have f2 : Fr (PM r) S (pI S1 33 r v) := f1.pI (PM_w (by decide) (by decide))
      have hT2 : TRM (pI S1 33 r v) fr fc one := TRM.put ⟨q3, q4, q5⟩ (by decide)
      have ew2 : wM (pI S1 33 r v) r = W2 := by rw [show (33 : Nat) = mWc 10 from rfl, wM_own (by decide) (by decide), ew1]; exact hv
      obtain ⟨S3, a1, a2, a3, a4, a5⟩ := M_do_go hr hW.1 (nq T 3) 0 1000 _ (Nat.zero_add _).symm (by omega) (h.fr f2) ((MO.told f2).trans et) hT2
      rw [a1, Option.bind_some]
      have f3 := f2.tr a3
      obtain ⟨S4, b1, b2, b3, b4, b5⟩ := M_men_go hr hW.1 hW.2.2.1 (nq T 4) 0 1000 S3 (Nat.zero_add _).symm (by omega) (h.fr f3) ((MO.told f3).trans et) a4
      exact ⟨S4, b1, by rw [b2, a2, ew2], f3.tr b3, by rw [b4, a5, gI_neo (by decide)]; exact k57, b5⟩
    have e33 : gI S1 33 r = wM S r 10 := by rw [← ew1]; rfl
    rw [mr_49 h1.1, lm_33, bnd_nI hr (by decide), if_pos rfl, if_pos rfl, q5, e33]
    cases one with
    | false =>
      rw [if_pos (show b2i false = 0 from rfl), if_neg (by decide)]
      exact core _ _ up_self
    | true =>
      rw [if_neg (by decide), if_pos rfl]
      exact core _ _ rfl
  | succ d ih =>
    intro i fuel S e1 e2 h et hk ht
    obtain ⟨f, rfl⟩ : ∃ f, fuel = f + 1 := ⟨fuel - 1, by omega⟩
    have hM := h.1
    have ec : gI S 2 7 = nI (nq T 2) := by have := (M_cnt (S := S) (q := 2) (by rw [et]; exact hW.1) (by decide)).1; rw [et] at this; exact this
    have hin : ¬ nI (nq T 2) ≤ nI i := by rw [nI_leI (by omega) (by omega)]; omega
    have hi : i < nq (tM S) 2 := by rw [et]; omega
    have g0 : gI S 11 i = tb T 2 i 0 := by rw [← et]; exact (M_tb (q := 2) (c := 0) (by decide) (by decide) hi).symm
    have g1 : gI S 12 i = tb T 2 i 1 := by rw [← et]; exact (M_tb (q := 2) (c := 1) (by decide) (by decide) hi).symm
    have e3 : gI S 27 r = wM S r 3 := rfl
    unfold fX11_passes_10 fX11_passes_50
    simp only [mr_3 hM, mr_12 hM, mr_13 hM, mr_43 hM, lm_2, lm_11, lm_12, lm_27, show bnd (7 : Int32) 26 = true from rfl, if_true, show (7 : Int32).toNatClampNeg = 7 from rfl, ec, hin, if_false, bnd_nI (show i < 24 by omega) (by decide), bnd_nI hr (by decide), nI_clamp (show i < 2 ^ 31 by omega), nI_clamp (show r < 2 ^ 31 by omega), g0, g1, e3, nI_1]
    show ∃ S1, _ ∧ wM S1 r = restW T (sunS T dark tw (hr24 (stpW T tw d (i + 1) (if tb T 2 i 0 = wM S r 3 then attW T tw (tb T 2 i 1) (wM S r) else wM S r) 3))) (stpW T tw d (i + 1) (if tb T 2 i 0 = wM S r 3 then attW T tw (tb T 2 i 1) (wM S r) else wM S r)) ∧ _ ∧ _ ∧ gI S1 0 58 = (fallS T (stpW T tw d (i + 1) (if tb T 2 i 0 = wM S r 3 then attW T tw (tb T 2 i 1) (wM S r) else wM S r)) (sunS T dark tw (hr24 (stpW T tw d (i + 1) (if tb T 2 i 0 = wM S r 3 then attW T tw (tb T 2 i 1) (wM S r) else wM S r) 3))) (hr24 (stpW T tw d (i + 1) (if tb T 2 i 0 = wM S r 3 then attW T tw (tb T 2 i 1) (wM S r) else wM S r) 3))).1 ∧ gI S1 0 59 = (fallS T (stpW T tw d (i + 1) (if tb T 2 i 0 = wM S r 3 then attW T tw (tb T 2 i 1) (wM S r) else wM S r)) (sunS T dark tw (hr24 (stpW T tw d (i + 1) (if tb T 2 i 0 = wM S r 3 then attW T tw (tb T 2 i 1) (wM S r) else wM S r) 3))) (hr24 (stpW T tw d (i + 1) (if tb T 2 i 0 = wM S r 3 then attW T tw (tb T 2 i 1) (wM S r) else wM S r) 3))).2
    by_cases c : tb T 2 i 0 = wM S r 3
    · rw [if_pos c, if_pos c]
      obtain ⟨S2, q1, q2, q3⟩ := M_tries (way := tb T 2 i 1) h (by rw [et]; exact hW.2.2.2.1) (by rw [et]; exact hW.2.2.1) hr ht
      rw [et] at q2
      rw [q1, Option.bind_some]
      have k57 : gI S2 0 57 = tw := by rw [q3.2 _ _ (fun hh => by unfold PM at hh; omega)]; exact ht
      obtain ⟨S1, r1, r2, r3, r4, r5, r6⟩ := ih (i + 1) f S2 (by omega) (by omega) (h.fr q3) ((MO.told q3).trans et) (by rw [q2]; exact WOK_att hk) k57
      rw [q2] at r2 r5 r6
      exact ⟨S1, r1, r2, q3.tr r3, r4, r5, r6⟩
    · rw [if_neg c, if_neg c]
      exact ih (i + 1) f S (by omega) (by omega) h et hk ht
theorem M_pass2 {r : Nat} {S : MS} {T : TT} {tw : Int32} {dr : Bool} (h : MO S) (hr : r < 23) (et : tM S = T) (hW : WT T) (hk : WOK T (wM S r)) (ht : gI S 0 57 = tw) :
    ∃ S1, fX11_passes 0 (nI r) (b2i dr) S = some S1 ∧ wM S1 r = passW T tw dr (wM S r) ∧ Fr (PM r) S S1 ∧ gI S1 0 57 = tw ∧ gI S1 0 58 = (fpW T tw dr (wM S r)).1 ∧ gI S1 0 59 = (fpW T tw dr (wM S r)).2 := by
  have hn := nq_le hW.1
  obtain ⟨S1, q1, q2, q3⟩ := M_clouds (dr := dr) h hr ht
  rw [et] at q1 q2
  have k57 : gI S1 0 57 = tw := by rw [q3.2 _ _ (fun hh => by unfold PM at hh; omega)]; exact ht
  unfold fX11_passes
  rw [q1, Option.bind_some]
  obtain ⟨S2, r1, r2, r3, r4, r5, r6⟩ := M_stp_go (dark := cloudB T tw dr (wM S r)) hr hW (nq T 2) 0 1000 S1 (Nat.zero_add _).symm (by omega) (h.fr q3) ((MO.told q3).trans et) (by rw [q2]; exact WOK_cloud hk) k57
  rw [q2] at r2 r5 r6
  exact ⟨S2, r1, r2, q3.tr r3, r4, r5, r6⟩
theorem M_pass {r : Nat} {S : MS} {T : TT} {tw : Int32} {dr : Bool} (h : MO S) (hr : r < 23) (et : tM S = T) (hW : WT T) (hk : WOK T (wM S r)) (ht : gI S 0 57 = tw) :
    ∃ S1, fX11_passes 0 (nI r) (b2i dr) S = some S1 ∧ wM S1 r = passW T tw dr (wM S r) ∧ Fr (PM r) S S1 ∧ gI S1 0 57 = tw := by
  obtain ⟨S1, q1, q2, q3, q4, -, -⟩ := M_pass2 (dr := dr) h hr et hW hk ht
  exact ⟨S1, q1, q2, q3, q4⟩
