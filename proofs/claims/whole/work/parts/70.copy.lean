/-! ===== copies of a world ===== -/
theorem isW_apart {w v : Nat} (hw : isW w) (hv : isW v) (h : w ≠ v) : w + 4 ≤ v ∨ v + 4 ≤ w := by
  have : ∀ w ∈ [58, 62, 66, 70, 74, 87, 91, 95], ∀ v ∈ [58, 62, 66, 70, 74, 87, 91, 95], w ≠ v → (w + 4 ≤ v ∨ v + 4 ≤ w) := by decide
  exact this w hw v hv h
def PB (w i : Nat) (o j : Nat) : Prop := w + 1 ≤ o ∧ o < w + 4 ∧ i ≤ j ∧ j < 4
theorem nle4 {i : Nat} (h : i < 4) : ¬ (4 : Int32) ≤ nI i := by rw [show (4 : Int32) = nI 4 from rfl, nI_leI (by decide) (by omega)]; omega
theorem X_become_go {t w v : Nat} (hw : isW w) (hv : isW v) (hn : w + 4 ≤ v ∨ v + 4 ≤ w) : ∀ (d i fuel : Nat) (S : MS), 4 = i + d → d < fuel → RX t S →
    ∃ S1, fX9_become_74 fuel w v (nI i) S = some S1 ∧ Fr (PB w i) S S1 ∧ ∀ j, i ≤ j → j < 4 → gI S1 (w + 1) j = gI S (v + 1) j ∧ gI S1 (w + 2) j = gI S (v + 2) j ∧ gI S1 (w + 3) j = gI S (v + 3) j := by
  intro d
  induction d with
  | zero =>
    intro i fuel S e1 e2 h
    obtain ⟨f, rfl⟩ : ∃ f, fuel = f + 1 := ⟨fuel - 1, by omega⟩
    refine ⟨S, ?_, Fr.rf, fun j h1 h2 => by omega⟩
    unfold fX9_become_74
    rw [show i = 4 from by omega, if_pos (by decide)]
  | succ d ih =>
    intro i fuel S e1 e2 h
    obtain ⟨f, rfl⟩ : ∃ f, fuel = f + 1 := ⟨fuel - 1, by omega⟩
    have hi4 := nle4 (i := i) (by omega)
    have hb : bnd (nI i) 4 = true := bnd_nI (by omega) (by decide)
    have hc : (nI i).toNatClampNeg = i := nI_clamp (by omega)
    unfold fX9_become_74 fX9_become_103
    simp only [gR_pI, rw_0 h hw, rw_1 h hw, rw_2 h hw, rw_0 h hv, rw_1 h hv, rw_2 h hv, lw_1 hw, lw_2 hw, lw_3 hw, lw_1 hv, lw_2 hv, lw_3 hv, hi4, hb, hc, if_true, if_false, nI_1]
    have pb : ∀ o, w + 1 ≤ o → o < w + 4 → PB w i o i := fun o h1 h2 => ⟨h1, h2, Nat.le_refl _, by omega⟩
    obtain ⟨S1, q1, q2, q3⟩ := ih (i + 1) f (pI (pI (pI S (w + 1) i (gI S (v + 1) i)) (w + 2) i (gI (pI S (w + 1) i (gI S (v + 1) i)) (v + 2) i)) (w + 3) i (gI (pI (pI S (w + 1) i (gI S (v + 1) i)) (w + 2) i (gI (pI S (w + 1) i (gI S (v + 1) i)) (v + 2) i)) (v + 3) i)) (by omega) (by omega) (h.of rfl)
    refine ⟨S1, q1, (((Fr.rf.pI (pb _ (by omega) (by omega))).pI (pb _ (by omega) (by omega))).pI (pb _ (by omega) (by omega))).tr (q2.mo (fun o j hp => ⟨hp.1, hp.2.1, Nat.le_of_succ_le hp.2.2.1, hp.2.2.2⟩)), fun j h1 h2 => ?_⟩
    by_cases hj : j = i
    · subst hj
      have np : ∀ o, ¬ PB w (j + 1) o j := fun o hp => absurd hp.2.2.1 (by omega)
      rw [q2.2 _ _ (np _), q2.2 _ _ (np _), q2.2 _ _ (np _)]
      simp only [gI_pI]
      grind
    · obtain ⟨k1, k2, k3⟩ := q3 j (by omega) h2
      rw [k1, k2, k3]
      simp only [gI_pI]
      grind
theorem wX_ext {S S1 : MS} {w v : Nat} (h0 : ∀ k, 3 ≤ k → k < 12 → gI S1 w k = gI S v k) (h1 : ∀ j, j < 4 → gI S1 (w + 1) j = gI S (v + 1) j ∧ gI S1 (w + 2) j = gI S (v + 2) j ∧ gI S1 (w + 3) j = gI S (v + 3) j) : wX S1 w = wX S v := by
  funext k
  unfold wX
  by_cases c1 : 3 ≤ k ∧ k < 12
  · rw [if_pos c1, if_pos c1]; exact h0 k c1.1 c1.2
  · rw [if_neg c1, if_neg c1]
    by_cases c2 : 20 ≤ k ∧ k < 24
    · rw [if_pos c2, if_pos c2]; exact (h1 (k - 20) (by omega)).1
    · rw [if_neg c2, if_neg c2]
      by_cases c3 : 30 ≤ k ∧ k < 34
      · rw [if_pos c3, if_pos c3]; exact (h1 (k - 30) (by omega)).2.1
      · rw [if_neg c3, if_neg c3]
        by_cases c4 : 40 ≤ k ∧ k < 44
        · rw [if_pos c4, if_pos c4]; exact (h1 (k - 40) (by omega)).2.2
        · rw [if_neg c4, if_neg c4]
theorem wM_ext {S S1 : MS} {a b : Nat} (h0 : ∀ k, 27 ≤ k → k < 36 → gI S1 k a = gI S k b) (h1 : ∀ j, j < 4 → gI S1 36 (4 * a + j) = gI S 36 (4 * b + j) ∧ gI S1 37 (4 * a + j) = gI S 37 (4 * b + j) ∧ gI S1 38 (4 * a + j) = gI S 38 (4 * b + j)) : wM S1 a = wM S b := by
  funext k
  unfold wM
  by_cases c1 : 3 ≤ k ∧ k < 12
  · rw [if_pos c1, if_pos c1]; have := mWc_r c1.1 c1.2; exact h0 _ this.1 this.2
  · rw [if_neg c1, if_neg c1]
    by_cases c2 : 20 ≤ k ∧ k < 24
    · rw [if_pos c2, if_pos c2]; exact (h1 (k - 20) (by omega)).1
    · rw [if_neg c2, if_neg c2]
      by_cases c3 : 30 ≤ k ∧ k < 34
      · rw [if_pos c3, if_pos c3]; exact (h1 (k - 30) (by omega)).2.1
      · rw [if_neg c3, if_neg c3]
        by_cases c4 : 40 ≤ k ∧ k < 44
        · rw [if_pos c4, if_pos c4]; exact (h1 (k - 40) (by omega)).2.2
        · rw [if_neg c4, if_neg c4]
theorem k9 {P : Nat → Prop} (h3 : P 3) (h4 : P 4) (h5 : P 5) (h6 : P 6) (h7 : P 7) (h8 : P 8) (h9 : P 9) (h10 : P 10) (h11 : P 11) : ∀ k, 3 ≤ k → k < 12 → P k := by
  intro k h1 h2
  rcases (by omega : k = 3 ∨ k = 4 ∨ k = 5 ∨ k = 6 ∨ k = 7 ∨ k = 8 ∨ k = 9 ∨ k = 10 ∨ k = 11) with rfl | rfl | rfl | rfl | rfl | rfl | rfl | rfl | rfl <;> assumption
theorem k27 {P : Nat → Prop} (h3 : P 27) (h4 : P 28) (h5 : P 29) (h6 : P 30) (h7 : P 31) (h8 : P 32) (h9 : P 33) (h10 : P 34) (h11 : P 35) : ∀ k, 27 ≤ k → k < 36 → P k := by
  intro k h1 h2
  rcases (by omega : k = 27 ∨ k = 28 ∨ k = 29 ∨ k = 30 ∨ k = 31 ∨ k = 32 ∨ k = 33 ∨ k = 34 ∨ k = 35) with rfl | rfl | rfl | rfl | rfl | rfl | rfl | rfl | rfl <;> assumption
theorem X_become {t w v : Nat} {S : MS} (h : RX t S) (hw : isW w) (hv : isW v) (hne : w ≠ v) : ∃ S1, fX9_become w v S = some S1 ∧ wX S1 w = wX S v ∧ Fr (PX w) S S1 := by
  have hn := isW_apart hw hv hne
  have vw : v ≠ w := fun e => hne e.symm
  have pw : ∀ j, PX w w j := fun j => Or.inr ⟨Nat.le_refl _, by omega⟩
  have core : ∀ S9 : MS, S9.2.1 = S.2.1 → (∀ k, 3 ≤ k → k < 12 → gI S9 w k = gI S v k) → Fr (PX w) S S9 → (∀ o j, o ≠ w → gI S9 o j = gI S o j) → ∃ S1, fX9_become_74 1000 w v (nI 0) S9 = some S1 ∧ wX S1 w = wX S v ∧ Fr (PX w) S S1 := by
    intro S9 hr hk hf ho
    obtain ⟨S1, q1, q2, q3⟩ := X_become_go (t := t) hw hv hn 4 0 1000 S9 rfl (by decide) (h.of hr)
    refine ⟨S1, q1, wX_ext (fun k a b => ?_) (fun j hj => ?_), hf.tr (q2.mo (fun o j hp => Or.inr ⟨by have := hp.1; omega, hp.2.1⟩))⟩
    · rw [q2.2 _ _ (fun hp => absurd hp.1 (by omega))]; exact hk k a b
    · obtain ⟨k1, k2, k3⟩ := q3 j (Nat.zero_le _) hj
      rw [k1, k2, k3, ho _ _ (by omega), ho _ _ (by omega), ho _ _ (by omega)]
      exact ⟨rfl, rfl, rfl⟩
  unfold fX9_become fX9_become_24 fX9_become_48 fX9_become_72
  simp only [gI_neo vw]
  refine core _ rfl ?_ ?_ ?_
  · refine k9 ?_ ?_ ?_ ?_ ?_ ?_ ?_ ?_ ?_ <;> simp [gI_pI]
  · exact ((((((((Fr.rf.pI (pw 3)).pI (pw 4)).pI (pw 5)).pI (pw 6)).pI (pw 7)).pI (pw 8)).pI (pw 9)).pI (pw 10)).pI (pw 11)
  · intro o j ho; simp only [gI_neo ho]
def PMw (r o j : Nat) : Prop := (27 ≤ o ∧ o < 36 ∧ j = r) ∨ (36 ≤ o ∧ o < 39 ∧ 4 * r ≤ j ∧ j < 4 * r + 4)
theorem PMw_M {r : Nat} : ∀ o j, PMw r o j → PM r o j := fun _ _ h => Or.inr h
def PCM (a i : Nat) (o j : Nat) : Prop := 36 ≤ o ∧ o < 39 ∧ 4 * a + i ≤ j ∧ j < 4 * a + 4
theorem M_copies_go {a b : Nat} (ha : a < 23) (hb : b < 23) (hne : a ≠ b) : ∀ (d i fuel : Nat) (S : MS), 4 = i + d → d < fuel → MR S →
    ∃ S1, fX11_copies_110 fuel 0 (nI a) (nI b) (nI i) S = some S1 ∧ Fr (PCM a i) S S1 ∧ ∀ j, i ≤ j → j < 4 → gI S1 36 (4 * a + j) = gI S 36 (4 * b + j) ∧ gI S1 37 (4 * a + j) = gI S 37 (4 * b + j) ∧ gI S1 38 (4 * a + j) = gI S 38 (4 * b + j) := by
  intro d
  induction d with
  | zero =>
    intro i fuel S e1 e2 h
    obtain ⟨f, rfl⟩ : ∃ f, fuel = f + 1 := ⟨fuel - 1, by omega⟩
    refine ⟨S, ?_, Fr.rf, fun j h1 h2 => by omega⟩
    unfold fX11_copies_110
    rw [show i = 4 from by omega, if_pos (by decide)]
  | succ d ih =>
    intro i fuel S e1 e2 h
    obtain ⟨f, rfl⟩ : ∃ f, fuel = f + 1 := ⟨fuel - 1, by omega⟩
    have hi4 := nle4 (i := i) (by omega)
    have ba : bnd (nI (4 * a + i)) 92 = true := bnd_nI (by omega) (by decide)
    have bb : bnd (nI (4 * b + i)) 92 = true := bnd_nI (by omega) (by decide)
    have ca : (nI (4 * a + i)).toNatClampNeg = 4 * a + i := nI_clamp (by omega)
    have cb : (nI (4 * b + i)).toNatClampNeg = 4 * b + i := nI_clamp (by omega)
    unfold fX11_copies_110 fX11_copies_155
    simp only [gR_pI, mr_52 h, mr_53 h, mr_54 h, lm_36, lm_37, lm_38, idx4, hi4, ba, bb, ca, cb, if_true, if_false, nI_1]
    have pb : ∀ o, 36 ≤ o → o < 39 → PCM a i o (4 * a + i) := fun o h1 h2 => ⟨h1, h2, Nat.le_refl _, by omega⟩
    obtain ⟨S1, q1, q2, q3⟩ := ih (i + 1) f (pI (pI (pI S 36 (4 * a + i) (gI S 36 (4 * b + i))) 37 (4 * a + i) (gI (pI S 36 (4 * a + i) (gI S 36 (4 * b + i))) 37 (4 * b + i))) 38 (4 * a + i) (gI (pI (pI S 36 (4 * a + i) (gI S 36 (4 * b + i))) 37 (4 * a + i) (gI (pI S 36 (4 * a + i) (gI S 36 (4 * b + i))) 37 (4 * b + i))) 38 (4 * b + i))) (by omega) (by omega) (h.of rfl)
    refine ⟨S1, q1, (((Fr.rf.pI (pb _ (by omega) (by omega))).pI (pb _ (by omega) (by omega))).pI (pb _ (by omega) (by omega))).tr (q2.mo (fun o j hp => ⟨hp.1, hp.2.1, Nat.le_of_succ_le hp.2.2.1, hp.2.2.2⟩)), fun j h1 h2 => ?_⟩
    by_cases hj : j = i
    · subst hj
      have np : ∀ o, ¬ PCM a (j + 1) o (4 * a + j) := fun o hp => absurd hp.2.2.1 (by omega)
      rw [q2.2 _ _ (np _), q2.2 _ _ (np _), q2.2 _ _ (np _)]
      simp only [gI_pI]
      grind
    · obtain ⟨k1, k2, k3⟩ := q3 j (by omega) h2
      rw [k1, k2, k3]
      have e : ¬ (4 * b + j = 4 * a + i) := by omega
      simp [gI_pI, e]
theorem M_copies {a b : Nat} {S : MS} (h : MR S) (ha : a < 23) (hb : b < 23) (hne : a ≠ b) : ∃ S1, fX11_copies 0 (nI a) (nI b) S = some S1 ∧ wM S1 a = wM S b ∧ Fr (PMw a) S S1 := by
  have ca : (nI a).toNatClampNeg = a := nI_clamp (by omega)
  have cb : (nI b).toNatClampNeg = b := nI_clamp (by omega)
  have ba : bnd (nI a) 23 = true := bnd_nI ha (by decide)
  have bb : bnd (nI b) 23 = true := bnd_nI hb (by decide)
  have core : ∀ S9 : MS, S9.2.1 = S.2.1 → (∀ k, 27 ≤ k → k < 36 → gI S9 k a = gI S k b) → Fr (PMw a) S S9 → (∀ o j, 36 ≤ o → gI S9 o j = gI S o j) → ∃ S1, fX11_copies_110 1000 0 (nI a) (nI b) (nI 0) S9 = some S1 ∧ wM S1 a = wM S b ∧ Fr (PMw a) S S1 := by
    intro S9 hr hk hf ho
    obtain ⟨S1, q1, q2, q3⟩ := M_copies_go ha hb hne 4 0 1000 S9 rfl (by decide) (h.of hr)
    refine ⟨S1, q1, wM_ext (fun k a b => ?_) (fun j hj => ?_), hf.tr (q2.mo (fun o j hp => Or.inr ⟨hp.1, hp.2.1, by have := hp.2.2.1; omega, hp.2.2.2⟩))⟩
    · rw [q2.2 _ _ (fun hp => absurd hp.1 (by omega))]; exact hk k a b
    · obtain ⟨k1, k2, k3⟩ := q3 j (Nat.zero_le _) hj
      rw [k1, k2, k3, ho _ _ (by omega), ho _ _ (by omega), ho _ _ (by omega)]
      exact ⟨rfl, rfl, rfl⟩
  have pw : ∀ o, 27 ≤ o → o < 36 → PMw a o a := fun o h1 h2 => Or.inl ⟨h1, h2, rfl⟩
  unfold fX11_copies fX11_copies_24 fX11_copies_48 fX11_copies_72 fX11_copies_96
  simp only [gR_pI, mr_43 h, mr_44 h, mr_45 h, mr_46 h, mr_47 h, mr_48 h, mr_49 h, mr_50 h, mr_51 h, lm_27, lm_28, lm_29, lm_30, lm_31, lm_32, lm_33, lm_34, lm_35, ba, bb, ca, cb, if_true]
  refine core _ rfl ?_ ?_ ?_
  · refine k27 ?_ ?_ ?_ ?_ ?_ ?_ ?_ ?_ ?_ <;> simp [gI_pI]
  · exact ((((((((Fr.rf.pI (pw _ (by decide) (by decide))).pI (pw _ (by decide) (by decide))).pI (pw _ (by decide) (by decide))).pI (pw _ (by decide) (by decide))).pI (pw _ (by decide) (by decide))).pI (pw _ (by decide) (by decide))).pI (pw _ (by decide) (by decide))).pI (pw _ (by decide) (by decide))).pI (pw _ (by decide) (by decide))
  · intro o j ho
    simp only [gI_neo (show o ≠ 27 by omega), gI_neo (show o ≠ 28 by omega), gI_neo (show o ≠ 29 by omega), gI_neo (show o ≠ 30 by omega), gI_neo (show o ≠ 31 by omega), gI_neo (show o ≠ 32 by omega), gI_neo (show o ≠ 33 by omega), gI_neo (show o ≠ 34 by omega), gI_neo (show o ≠ 35 by omega)]
/-! a world begins -/
def begW (T : TT) (r c : Int32) : Nat → Int32 := fun k => if k = 4 then r else if k = 5 then c else if k = 7 then ((1 : Int32) <<< (sc T 1 &&& 31)) - 1 else if k = 11 then sc T 14 else 0
theorem X_begin_go {t w : Nat} (hw : isW w) : ∀ (d i fuel : Nat) (S : MS), 4 = i + d → d < fuel → RX t S →
    ∃ S1, fX9_begin_61 fuel w (nI i) S = some S1 ∧ Fr (PB w i) S S1 ∧ ∀ j, i ≤ j → j < 4 → gI S1 (w + 1) j = 0 ∧ gI S1 (w + 2) j = 0 ∧ gI S1 (w + 3) j = 0 := by
  intro d
  induction d with
  | zero =>
    intro i fuel S e1 e2 h
    obtain ⟨f, rfl⟩ : ∃ f, fuel = f + 1 := ⟨fuel - 1, by omega⟩
    refine ⟨S, ?_, Fr.rf, fun j h1 h2 => by omega⟩
    unfold fX9_begin_61
    rw [show i = 4 from by omega, if_pos (by decide)]
  | succ d ih =>
    intro i fuel S e1 e2 h
    obtain ⟨f, rfl⟩ : ∃ f, fuel = f + 1 := ⟨fuel - 1, by omega⟩
    have hi4 := nle4 (i := i) (by omega)
    have hb : bnd (nI i) 4 = true := bnd_nI (by omega) (by decide)
    have hc : (nI i).toNatClampNeg = i := nI_clamp (by omega)
    unfold fX9_begin_61 fX9_begin_83
    simp only [gR_pI, rw_0 h hw, rw_1 h hw, rw_2 h hw, lw_1 hw, lw_2 hw, lw_3 hw, hi4, hb, hc, if_true, if_false, nI_1]
    have pb : ∀ o, w + 1 ≤ o → o < w + 4 → PB w i o i := fun o h1 h2 => ⟨h1, h2, Nat.le_refl _, by omega⟩
    obtain ⟨S1, q1, q2, q3⟩ := ih (i + 1) f (pI (pI (pI S (w + 1) i 0) (w + 2) i 0) (w + 3) i 0) (by omega) (by omega) (h.of rfl)
    refine ⟨S1, q1, (((Fr.rf.pI (pb _ (by omega) (by omega))).pI (pb _ (by omega) (by omega))).pI (pb _ (by omega) (by omega))).tr (q2.mo (fun o j hp => ⟨hp.1, hp.2.1, Nat.le_of_succ_le hp.2.2.1, hp.2.2.2⟩)), fun j h1 h2 => ?_⟩
    by_cases hj : j = i
    · subst hj
      have np : ∀ o, ¬ PB w (j + 1) o j := fun o hp => absurd hp.2.2.1 (by omega)
      rw [q2.2 _ _ (np _), q2.2 _ _ (np _), q2.2 _ _ (np _)]
      simp [gI_pI]
    · exact q3 j (by omega) h2
theorem wX_beg {S1 : MS} {w : Nat} {T : TT} {r c : Int32} (h0 : ∀ k, 3 ≤ k → k < 12 → gI S1 w k = begW T r c k) (h1 : ∀ j, j < 4 → gI S1 (w + 1) j = 0 ∧ gI S1 (w + 2) j = 0 ∧ gI S1 (w + 3) j = 0) : wX S1 w = begW T r c := by
  funext k
  unfold wX
  by_cases c1 : 3 ≤ k ∧ k < 12
  · rw [if_pos c1]; exact h0 k c1.1 c1.2
  · have e : begW T r c k = 0 := by unfold begW; rw [if_neg (by omega), if_neg (by omega), if_neg (by omega), if_neg (by omega)]
    rw [if_neg c1, e]
    by_cases c2 : 20 ≤ k ∧ k < 24
    · rw [if_pos c2]; exact (h1 (k - 20) (by omega)).1
    · rw [if_neg c2]
      by_cases c3 : 30 ≤ k ∧ k < 34
      · rw [if_pos c3]; exact (h1 (k - 30) (by omega)).2.1
      · rw [if_neg c3]
        by_cases c4 : 40 ≤ k ∧ k < 44
        · rw [if_pos c4]; exact (h1 (k - 40) (by omega)).2.2
        · rw [if_neg c4]
theorem X_begin {t w : Nat} {S : MS} {r c : Int32} (h : RX t S) (hw : isW w) : ∃ S1, fX9_begin w t r c S = some S1 ∧ wX S1 w = begW (tX S t) r c ∧ Fr (PX w) S S1 := by
  have hge := isW_ge hw
  have hwt : t ≠ w := by rcases h.1 with rfl | rfl <;> omega
  have hwt5 : t + 5 ≠ w := by rcases h.1 with rfl | rfl <;> omega
  have pw : ∀ j, PX w w j := fun j => Or.inr ⟨Nat.le_refl _, by omega⟩
  have e1 : gI S (t + 5) 3 = sc (tX S t) 1 := rfl
  have e14 : gI S t 14 = sc (tX S t) 14 := rfl
  unfold fX9_begin fX9_begin_40 fX7_size
  simp only [gR_pI, rt_3 h h.1, gI_neo hwt, gI_neo hwt5, Option.bind_some, e1, e14]
  have core : ∀ S9 : MS, S9.2.1 = S.2.1 → (∀ k, 3 ≤ k → k < 12 → gI S9 w k = begW (tX S t) r c k) → Fr (PX w) S S9 → ∃ S1, fX9_begin_61 1000 w (nI 0) S9 = some S1 ∧ wX S1 w = begW (tX S t) r c ∧ Fr (PX w) S S1 := by
    intro S9 hr hk hf
    obtain ⟨S1, q1, q2, q3⟩ := X_begin_go (t := t) hw 4 0 1000 S9 rfl (by decide) (h.of hr)
    refine ⟨S1, q1, wX_beg (fun k a b => ?_) (fun j hj => q3 j (Nat.zero_le _) hj), hf.tr (q2.mo (fun o j hp => Or.inr ⟨by have := hp.1; omega, hp.2.1⟩))⟩
    rw [q2.2 _ _ (fun hp => absurd hp.1 (by omega))]; exact hk k a b
  refine core _ rfl ?_ ?_
  · refine k9 ?_ ?_ ?_ ?_ ?_ ?_ ?_ ?_ ?_ <;> simp [gI_pI, begW]
  · exact ((((((((Fr.rf.pI (pw 3)).pI (pw 4)).pI (pw 5)).pI (pw 6)).pI (pw 7)).pI (pw 8)).pI (pw 9)).pI (pw 10)).pI (pw 11)
theorem M_starts_go {a : Nat} (ha : a < 23) : ∀ (d i fuel : Nat) (S : MS), 4 = i + d → d < fuel → MR S →
    ∃ S1, fX11_starts_91 fuel 0 (nI a) (nI i) S = some S1 ∧ Fr (PCM a i) S S1 ∧ ∀ j, i ≤ j → j < 4 → gI S1 36 (4 * a + j) = 0 ∧ gI S1 37 (4 * a + j) = 0 ∧ gI S1 38 (4 * a + j) = 0 := by
  intro d
  induction d with
  | zero =>
    intro i fuel S e1 e2 h
    obtain ⟨f, rfl⟩ : ∃ f, fuel = f + 1 := ⟨fuel - 1, by omega⟩
    refine ⟨S, ?_, Fr.rf, fun j h1 h2 => by omega⟩
    unfold fX11_starts_91
    rw [show i = 4 from by omega, if_pos (by decide)]
  | succ d ih =>
    intro i fuel S e1 e2 h
    obtain ⟨f, rfl⟩ : ∃ f, fuel = f + 1 := ⟨fuel - 1, by omega⟩
    have hi4 := nle4 (i := i) (by omega)
    have ba : bnd (nI (4 * a + i)) 92 = true := bnd_nI (by omega) (by decide)
    have ca : (nI (4 * a + i)).toNatClampNeg = 4 * a + i := nI_clamp (by omega)
    unfold fX11_starts_91 fX11_starts_118
    simp only [gR_pI, mr_52 h, mr_53 h, mr_54 h, lm_36, lm_37, lm_38, idx4, hi4, ba, ca, if_true, if_false, nI_1]
    have pb : ∀ o, 36 ≤ o → o < 39 → PCM a i o (4 * a + i) := fun o h1 h2 => ⟨h1, h2, Nat.le_refl _, by omega⟩
    obtain ⟨S1, q1, q2, q3⟩ := ih (i + 1) f (pI (pI (pI S 36 (4 * a + i) 0) 37 (4 * a + i) 0) 38 (4 * a + i) 0) (by omega) (by omega) (h.of rfl)
    refine ⟨S1, q1, (((Fr.rf.pI (pb _ (by omega) (by omega))).pI (pb _ (by omega) (by omega))).pI (pb _ (by omega) (by omega))).tr (q2.mo (fun o j hp => ⟨hp.1, hp.2.1, Nat.le_of_succ_le hp.2.2.1, hp.2.2.2⟩)), fun j h1 h2 => ?_⟩
    by_cases hj : j = i
    · subst hj
      have np : ∀ o, ¬ PCM a (j + 1) o (4 * a + j) := fun o hp => absurd hp.2.2.1 (by omega)
      rw [q2.2 _ _ (np _), q2.2 _ _ (np _), q2.2 _ _ (np _)]
      simp [gI_pI]
    · exact q3 j (by omega) h2
theorem wM_beg {S1 : MS} {a : Nat} {T : TT} {r c : Int32} (h0 : ∀ k, 3 ≤ k → k < 12 → gI S1 (mWc k) a = begW T r c k) (h1 : ∀ j, j < 4 → gI S1 36 (4 * a + j) = 0 ∧ gI S1 37 (4 * a + j) = 0 ∧ gI S1 38 (4 * a + j) = 0) : wM S1 a = begW T r c := by
  funext k
  unfold wM
  by_cases c1 : 3 ≤ k ∧ k < 12
  · rw [if_pos c1]; exact h0 k c1.1 c1.2
  · have e : begW T r c k = 0 := by unfold begW; rw [if_neg (by omega), if_neg (by omega), if_neg (by omega), if_neg (by omega)]
    rw [if_neg c1, e]
    by_cases c2 : 20 ≤ k ∧ k < 24
    · rw [if_pos c2]; exact (h1 (k - 20) (by omega)).1
    · rw [if_neg c2]
      by_cases c3 : 30 ≤ k ∧ k < 34
      · rw [if_pos c3]; exact (h1 (k - 30) (by omega)).2.1
      · rw [if_neg c3]
        by_cases c4 : 40 ≤ k ∧ k < 44
        · rw [if_pos c4]; exact (h1 (k - 40) (by omega)).2.2
        · rw [if_neg c4]
theorem M_starts {a : Nat} {S : MS} (h : MR S) (ha : a < 23) : ∃ S1, fX11_starts 0 (nI a) S = some S1 ∧ wM S1 a = begW (tM S) (sc (tM S) 10) (sc (tM S) 11) ∧ Fr (PMw a) S S1 := by
  have ca : (nI a).toNatClampNeg = a := nI_clamp (by omega)
  have ba : bnd (nI a) 23 = true := bnd_nI ha (by decide)
  have e2 : gI S 2 2 = sc (tM S) 10 := rfl
  have e3 : gI S 2 3 = sc (tM S) 11 := rfl
  have e6 : gI S 2 6 = sc (tM S) 1 := rfl
  have e11 : gI S 2 11 = sc (tM S) 14 := rfl
  have pw : ∀ o, 27 ≤ o → o < 36 → PMw a o a := fun o h1 h2 => Or.inl ⟨h1, h2, rfl⟩
  have core : ∀ S9 : MS, S9.2.1 = S.2.1 → (∀ k, 3 ≤ k → k < 12 → gI S9 (mWc k) a = begW (tM S) (sc (tM S) 10) (sc (tM S) 11) k) → Fr (PMw a) S S9 → ∃ S1, fX11_starts_91 1000 0 (nI a) (nI 0) S9 = some S1 ∧ wM S1 a = begW (tM S) (sc (tM S) 10) (sc (tM S) 11) ∧ Fr (PMw a) S S1 := by
    intro S9 hr hk hf
    obtain ⟨S1, q1, q2, q3⟩ := M_starts_go ha 4 0 1000 S9 rfl (by decide) (h.of hr)
    refine ⟨S1, q1, wM_beg (fun k a b => ?_) (fun j hj => q3 j (Nat.zero_le _) hj), hf.tr (q2.mo (fun o j hp => Or.inr ⟨hp.1, hp.2.1, by have := hp.2.2.1; omega, hp.2.2.2⟩))⟩
    rw [q2.2 _ _ (fun hp => absurd hp.1 (by have := mWc_r a b; omega))]; exact hk k a b
  unfold fX11_starts fX11_starts_20 fX11_starts_39 fX11_starts_58 fX11_starts_82
  simp only [gR_pI, mr_3 h, mr_43 h, mr_44 h, mr_45 h, mr_46 h, mr_47 h, mr_48 h, mr_49 h, mr_50 h, mr_51 h, lm_2, lm_27, lm_28, lm_29, lm_30, lm_31, lm_32, lm_33, lm_34, lm_35, ba, ca, if_true, show bnd (2 : Int32) 26 = true from rfl, show bnd (3 : Int32) 26 = true from rfl, show bnd (6 : Int32) 26 = true from rfl, show bnd (11 : Int32) 26 = true from rfl, show (2 : Int32).toNatClampNeg = 2 from rfl, show (3 : Int32).toNatClampNeg = 3 from rfl, show (6 : Int32).toNatClampNeg = 6 from rfl, show (11 : Int32).toNatClampNeg = 11 from rfl, gI_neo (show (2 : Nat) ≠ 27 by decide), gI_neo (show (2 : Nat) ≠ 28 by decide), gI_neo (show (2 : Nat) ≠ 29 by decide), gI_neo (show (2 : Nat) ≠ 30 by decide), gI_neo (show (2 : Nat) ≠ 31 by decide), gI_neo (show (2 : Nat) ≠ 32 by decide), gI_neo (show (2 : Nat) ≠ 33 by decide), e2, e3, e6, e11]
  refine core _ rfl ?_ ?_
  · refine k9 ?_ ?_ ?_ ?_ ?_ ?_ ?_ ?_ ?_ <;> simp [gI_pI, begW, mWc]
  · exact ((((((((Fr.rf.pI (pw _ (by decide) (by decide))).pI (pw _ (by decide) (by decide))).pI (pw _ (by decide) (by decide))).pI (pw _ (by decide) (by decide))).pI (pw _ (by decide) (by decide))).pI (pw _ (by decide) (by decide))).pI (pw _ (by decide) (by decide))).pI (pw _ (by decide) (by decide))).pI (pw _ (by decide) (by decide))
