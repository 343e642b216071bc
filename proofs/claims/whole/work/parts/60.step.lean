/-! ===== a step ===== -/
def XO (t : Nat) (S : MS) : Prop := RX t S ∧ KX S ∧ 0 ≤ gI S (t + 14) 2 ∧ 0 ≤ gI S (t + 17) 2 ∧ 0 ≤ gI S (t + 20) 2
def MO (S : MS) : Prop := MR S ∧ WKM S ∧ WWM S
theorem XO.fr {t w : Nat} {S S1 : MS} (h : XO t S) (hw : isW w) (f : Fr (PX w) S S1) : XO t S1 := by
  obtain ⟨h1, h2, h3, h4, h5⟩ := h
  have hp := PX_told (w := w) h1.1 hw
  refine ⟨h1.of f.1, h2.fr f (PX_k hw), ?_, ?_, ?_⟩
  · rw [f.2 _ _ (hp _ _ (by omega) (by omega))]; exact h3
  · rw [f.2 _ _ (hp _ _ (by omega) (by omega))]; exact h4
  · rw [f.2 _ _ (hp _ _ (by omega) (by omega))]; exact h5
theorem XO.told {t w : Nat} {S S1 : MS} (h : XO t S) (hw : isW w) (f : Fr (PX w) S S1) : tX S1 t = tX S t := Fr.told f (PX_told h.1.1 hw)
theorem XO.jo {t : Nat} {S S1 : MS} (h : XO t S) (j : Jo S S1) : XO t S1 := by
  obtain ⟨h1, h2, h3, h4, h5⟩ := h
  exact ⟨h1.of j.2, fun q hq => (j.gI _ _).trans (h2 q hq), by rw [j.gI]; exact h3, by rw [j.gI]; exact h4, by rw [j.gI]; exact h5⟩
theorem Jo.fr {P : Nat → Nat → Prop} {S S1 : MS} (h : Jo S S1) : Fr P S S1 := ⟨h.2, fun o j _ => h.gI o j⟩
theorem Jo.wX {S S1 : MS} {w : Nat} (h : Jo S S1) : wX S1 w = wX S w := Fr.wld (h.fr (P := fun _ _ => False)) (fun _ _ _ _ => id)
theorem MO.fr {r : Nat} {S S1 : MS} (h : MO S) (f : Fr (PM r) S S1) : MO S1 := by
  obtain ⟨h1, h2, h3⟩ := h
  have e : ∀ o j, 2 ≤ o → o < 25 → gI S1 o j = gI S o j := fun o j a b => f.2 _ _ (PM_told _ _ a b)
  refine ⟨h1.of f.1, fun k hk => ?_, ?_⟩
  · rw [e 21 _ (by decide) (by decide), e 22 _ (by decide) (by decide)]
    obtain ⟨q1, q2, q3, q4⟩ := h2 k hk
    refine ⟨q1, q2, q3, fun i hi => ?_⟩
    rw [e 23 _ (by decide) (by decide), e 24 _ (by decide) (by decide)]
    exact q4 i hi
  · unfold WWM; rw [e 2 _ (by decide) (by decide)]; exact h3
theorem F42.fr {r : Nat} {S S1 : MS} (h : F42 S S1) : Fr (PM r) S S1 := ⟨h.1, fun o j hp => h.2 o j (fun hh => hp (Or.inl ⟨hh.1, Or.inl hh.2⟩))⟩
theorem wM_fr {r : Nat} {P : Nat → Nat → Prop} {S S1 : MS} (h : Fr P S S1) (hp : ∀ o j, 27 ≤ o → o < 39 → ¬ P o j) : wM S1 r = wM S r := by
  funext k
  have hb := @mWc_r k
  unfold wM
  by_cases h1 : 3 ≤ k ∧ k < 12
  · rw [if_pos h1, if_pos h1]; exact h.2 _ _ (hp _ _ (hb h1.1 h1.2).1 (by have := hb h1.1 h1.2; omega))
  · rw [if_neg h1, if_neg h1, h.2 36 _ (hp _ _ (by decide) (by decide)), h.2 37 _ (hp _ _ (by decide) (by decide)), h.2 38 _ (hp _ _ (by decide) (by decide))]
def P42 (o j : Nat) : Prop := o = 0 ∧ j = 42
theorem F42.p42 {S S1 : MS} (h : F42 S S1) : Fr P42 S S1 := h
theorem F42.wM {r : Nat} {S S1 : MS} (h : F42 S S1) : wM S1 r = wM S r := wM_fr h.p42 (fun o j h1 _ hp => by have := hp.1; omega)
theorem Jo.wM {r : Nat} {S S1 : MS} (h : Jo S S1) : wM S1 r = wM S r := wM_fr (h.fr (P := fun _ _ => False)) (fun _ _ _ _ => id)
def HW (how tw : Int32) (dr : Bool) : Prop := (how &&& 2 = 0 ↔ tw ≠ 1) ∧ (how &&& 4 = 0 ↔ tw ≠ 3) ∧ (how &&& 8 = 0 ↔ tw ≠ 4) ∧ (how &&& 16 = 0 ↔ tw ≠ 5) ∧ (how &&& 1 = 0 ↔ dr = false)
def openB (T : TT) (tw : Int32) (w : Nat → Int32) (way : Int32) : Bool := cellB T (w 4 + dnB way) (w 5 + rtB way) && (decide (tw = 3) || !wallB T (w 4 + dnB way) (w 5 + rtB way)) && (decide (tw = 4) || decide (w 6 < 9))
def movW (way : Int32) (w : Nat → Int32) : Nat → Int32 := up (up w 4 (w 4 + dnB way)) 5 (w 5 + rtB way)
def min99 (x : Int32) : Int32 := if x < 99 then x else 99
def stepW (T : TT) (tw way : Int32) (w : Nat → Int32) : Nat → Int32 := if tw = 4 then movW way w else up (movW way w) 6 (min99 (w 6 + wthn (lwl T 2) (nmW w 0 0 0 (hr24 (w 3))) 9 1))
def attW (T : TT) (tw way : Int32) (w : Nat → Int32) : Nat → Int32 := if openB T tw w way = true then stepW T tw way w else up w 9 (w 9 + 1)
theorem i9 {x : Int32} : (9 ≤ x) ↔ ¬ x < 9 := by grind
theorem X_isOpen {t w : Nat} {S : MS} {way how tw : Int32} {dr : Bool} (h : XO t S) (hD : WD (tX S t)) (hh : HW how tw dr) (h4 : tw = 4 → wX S w 6 < 9) : fX0_isOpen 52 w way how S = some (b2i (openB (tX S t) tw (wX S w) way)) := by
  have e4 : gI S w 4 = wX S w 4 := rfl
  have e5 : gI S w 5 = wX S w 5 := rfl
  have e6 : gI S w 6 = wX S w 6 := rfl
  unfold fX0_isOpen fX0_isOpen_42 fX0_isOpen_47
  rw [X_dn, X_rt, rx_ctold h.1, e4, e5, e6]
  simp only [Option.bind_some, X_isCell, X_isWall h.1 h.1.1 hD]
  unfold openB
  simp only [i9]
  generalize hc : cellB (tX S t) (wX S w 4 + dnB way) (wX S w 5 + rtB way) = cb
  generalize wallB (tX S t) (wX S w 4 + dnB way) (wX S w 5 + rtB way) = wb
  have k4 := hh.2.1
  by_cases c3 : tw = 3
  · rw [if_neg (fun hq => k4.mp hq c3)]
    have c4 : ¬ tw = 4 := by rw [c3]; decide
    cases cb <;> by_cases c6 : wX S w 6 < 9 <;> simp [b2i, c3, c4, c6]
  · rw [if_pos (k4.mpr c3)]
    by_cases c4 : tw = 4
    · have c6 := h4 c4
      cases cb <;> cases wb <;> simp [b2i, c3, c4, c6]
    · cases cb <;> cases wb <;> by_cases c6 : wX S w 6 < 9 <;> simp [b2i, c3, c4, c6]
theorem WB_up {w : Nat → Int32} {k : Nat} {v : Int32} (h : WB w) (h7 : k ≠ 7) (h8 : k ≠ 8) : WB (up w k v) := by
  unfold WB at *; rw [up_ne (fun e => h7 e.symm), up_ne (fun e => h8 e.symm)]; exact h
theorem nmW_up {w : Nat → Int32} {k : Nat} {v a b c d : Int32} (h6 : k ≠ 6) (h7 : k ≠ 7) (h8 : k ≠ 8) : nmW (up w k v) a b c d = nmW w a b c d := by
  unfold nmW; rw [up_ne (fun e => h6 e.symm), up_ne (fun e => h7 e.symm), up_ne (fun e => h8 e.symm)]
theorem X_attempt {t w : Nat} {S : MS} {way how tw : Int32} {dr : Bool} (h : XO t S) (hw : isW w) (hD : WD (tX S t)) (hK : WK (tX S t)) (hb : WB (wX S w)) (hh : HW how tw dr) (h4 : tw = 4 → wX S w 6 < 9) :
    ∃ S1, fX0_attempt 52 w way how S = some S1 ∧ wX S1 w = attW (tX S t) tw way (wX S w) ∧ Fr (PX w) S S1 := by
  have hge := isW_ge hw
  have pw : ∀ j, PX w w j := fun j => Or.inr ⟨Nat.le_refl _, by omega⟩
  unfold fX0_attempt attW
  rw [X_isOpen h hD hh h4, Option.bind_some]
  cases hop : openB (tX S t) tw (wX S w) way with
  | false =>
    refine ⟨_, if_pos rfl, ?_, Fr.rf.pI (pw 9)⟩
    rw [wX_own (by decide) (by decide)]; rfl
  | true =>
    rw [if_neg (by decide), X_dn, Option.bind_some, X_rt, Option.bind_some]
    have eS2 : wX (pI (pI S w 4 (gI S w 4 + dnB way)) w 5 (gI (pI S w 4 (gI S w 4 + dnB way)) w 5 + rtB way)) w = movW way (wX S w) := by
      rw [wX_own (by decide) (by decide), wX_own (by decide) (by decide), gI_nek (by decide)]; rfl
    have fS2 : Fr (PX w) S (pI (pI S w 4 (gI S w 4 + dnB way)) w 5 (gI (pI S w 4 (gI S w 4 + dnB way)) w 5 + rtB way)) := (Fr.rf.pI (pw 4)).pI (pw 5)
    have g6 : gI (pI (pI S w 4 (gI S w 4 + dnB way)) w 5 (gI (pI S w 4 (gI S w 4 + dnB way)) w 5 + rtB way)) w 6 = wX S w 6 := by
      rw [gI_nek (by decide), gI_nek (by decide)]; rfl
    have g3 : gI (pI (pI S w 4 (gI S w 4 + dnB way)) w 5 (gI (pI S w 4 (gI S w 4 + dnB way)) w 5 + rtB way)) w 3 = wX S w 3 := by
      rw [gI_nek (by decide), gI_nek (by decide)]; rfl
    generalize pI (pI S w 4 (gI S w 4 + dnB way)) w 5 (gI (pI S w 4 (gI S w 4 + dnB way)) w 5 + rtB way) = S2 at eS2 fS2 g6 g3
    have k8 := hh.2.2.1
    simp only [if_true]
    unfold stepW
    by_cases c4 : tw = 4
    · rw [if_neg (fun hq => k8.mp hq c4), if_pos c4]
      exact ⟨S2, rfl, eS2, fS2⟩
    · rw [if_pos (k8.mpr c4), if_neg c4]
      have h2 := h.fr hw fS2
      have hb2 : WB (wX S2 w) := by rw [eS2]; exact WB_up (WB_up hb (by decide) (by decide)) (by decide) (by decide)
      obtain ⟨S3, q1, q2, q3⟩ := X_tell (far := 0) (met := 0) (trod := 0) h2.1 hw hb2
      have f3 := (q2.mo (P53_X (w := w)))
      have h3 := h2.fr hw f3
      have et : tX S3 t = tX S t := (h2.told hw f3).trans (h.told hw fS2)
      obtain ⟨S4, j4, q5⟩ := X_within_2 (most := 9) (without := 1) h3.1 (by rw [et]; exact hK) h3.2.2.2.2
      rw [q1, Option.bind_some, q5, Option.bind_some]
      unfold fX9_tireBy
      refine ⟨_, rfl, ?_, ?_⟩
      · rw [wX_own (by decide) (by decide)]
        have e6 : gI S4 w 6 = wX S w 6 := by
          rw [j4.gI, q2.2 _ _ (fun hq : w = 53 => by omega)]; exact g6
        have ew : wX S4 w = movW way (wX S w) := by
          rw [j4.wX, Fr.wld q2 (fun o j a b (hq : o = 53) => by omega)]; exact eS2
        have en : wthn (lwl (tX S3 t) 2) (gI S3 53) 9 1 = wthn (lwl (tX S t) 2) (nmW (wX S w) 0 0 0 (hr24 (wX S w 3))) 9 1 := by
          rw [et]
          refine wthn_congr (fun j hj => ?_)
          rw [q3 j hj, eS2, g3]
          unfold movW
          rw [nmW_up (by decide) (by decide) (by decide), nmW_up (by decide) (by decide) (by decide)]
        simp only [ew, e6, en]
        rfl
      · exact (((fS2.tr f3).tr (j4.fr)).pI (pw 6))
