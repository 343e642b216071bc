/-! ===== doings, men, an hour as a whole ===== -/
def min999 (x : Int32) : Int32 := if x < 999 then x else 999
def itAt (fr fc : Int32) (one : Bool) (r c : Int32) : Prop := one = false ∧ fr = r ∧ fc = c
def doW (T : TT) (fr fc : Int32) (one : Bool) (i : Nat) (w : Nat → Int32) : Nat → Int32 :=
  if (if tb T 3 i 1 = 0 then decide (w 4 = tb T 3 i 2 ∧ w 5 = tb T 3 i 3) else decide (one = false ∧ fr = tb T 3 i 2 ∧ fc = tb T 3 i 3)) = true then up w 8 (w 8 ||| (1 <<< (nI i &&& 31))) else w
def dosW (T : TT) (fr fc : Int32) (one : Bool) : Nat → Nat → (Nat → Int32) → (Nat → Int32)
  | 0, _, w => w
  | n + 1, i, w => dosW T fr fc one n (i + 1) (doW T fr fc one i w)
def manW (T : TT) (fr fc : Int32) (one : Bool) (i : Nat) (w : Nat → Int32) : Nat → Int32 :=
  if w 4 = tb T 4 i 1 ∧ w 5 = tb T 4 i 2 then up w (20 + i) (min999 (w (20 + i) + 1))
  else if one = false ∧ fr = tb T 4 i 1 ∧ fc = tb T 4 i 2 then
    up (up w (30 + i) (min999 (w (30 + i) + 1))) (40 + i) (min999 (w (40 + i) + wthn (lwl T 1) (nmW w 0 (w (20 + i)) (min999 (w (30 + i) + 1)) (hr24 (w 3))) 99 1))
  else w
def menW (T : TT) (fr fc : Int32) (one : Bool) : Nat → Nat → (Nat → Int32) → (Nat → Int32)
  | 0, _, w => w
  | n + 1, i, w => menW T fr fc one n (i + 1) (manW T fr fc one i w)
def stpW (T : TT) (tw : Int32) : Nat → Nat → (Nat → Int32) → (Nat → Int32)
  | 0, _, w => w
  | n + 1, i, w => stpW T tw n (i + 1) (if tb T 2 i 0 = w 3 then attW T tw (tb T 2 i 1) w else w)
/-- what hours keep: she is in the room, the sets are sets, hours count on -/
def WOK (T : TT) (w : Nat → Int32) : Prop := WP T w ∧ WB w ∧ 0 ≤ w 3 ∧ w 3 ≤ 20000
def endW (w : Nat → Int32) : Nat → Int32 := up (if hr24 (w 3) = 23 then up w 6 0 else w) 3 (w 3 + 1)
def restW (T : TT) (s : Int32) (w : Nat → Int32) : Nat → Int32 :=
  endW (menW T (fallS T w s (hr24 (w 3))).1 (fallS T w s (hr24 (w 3))).2 (oneS T w s (hr24 (w 3))) (nq T 4) 0
    (dosW T (fallS T w s (hr24 (w 3))).1 (fallS T w s (hr24 (w 3))).2 (oneS T w s (hr24 (w 3))) (nq T 3) 0
      (if oneS T w s (hr24 (w 3)) = true then up w 10 (w 10 + 1) else w)))
def passW (T : TT) (tw : Int32) (dr : Bool) (w : Nat → Int32) : Nat → Int32 :=
  restW T (sunS T (cloudB T tw dr w) tw (hr24 (stpW T tw (nq T 2) 0 (cloudW T tw dr w) 3))) (stpW T tw (nq T 2) 0 (cloudW T tw dr w))
/-! they keep it -/
set_option maxRecDepth 100000 in
theorem or_dec : ∀ x, x < 256 → ∀ i, i < 8 → 0 ≤ (nI x ||| ((1 : Int32) <<< (nI i &&& 31))) ∧ (nI x ||| ((1 : Int32) <<< (nI i &&& 31))) < 256 := by decide +kernel
theorem or_rng {x : Int32} {i : Nat} (h1 : 0 ≤ x) (h2 : x < 256) (hi : i < 8) : 0 ≤ (x ||| ((1 : Int32) <<< (nI i &&& 31))) ∧ (x ||| ((1 : Int32) <<< (nI i &&& 31))) < 256 := by
  obtain ⟨k, hk, rfl⟩ := nI_of (Int32.not_lt.mpr h1)
  exact or_dec k ((nI_ltI hk (by decide)).mp h2) i hi
theorem WP_up {T : TT} {w : Nat → Int32} {k : Nat} {v : Int32} (h : WP T w) (h4 : k ≠ 4) (h5 : k ≠ 5) : WP T (up w k v) := by
  unfold WP at *; rw [up_ne (fun e => h4 e.symm), up_ne (fun e => h5 e.symm)]; exact h
theorem WOK_up {T : TT} {w : Nat → Int32} {k : Nat} {v : Int32} (h : WOK T w) (hk : k ≠ 3 ∧ k ≠ 4 ∧ k ≠ 5 ∧ k ≠ 7 ∧ k ≠ 8) : WOK T (up w k v) := by
  refine ⟨WP_up h.1 hk.2.1 hk.2.2.1, WB_up h.2.1 hk.2.2.2.1 hk.2.2.2.2, ?_, ?_⟩
  · rw [up_ne (fun e => hk.1 e.symm)]; exact h.2.2.1
  · rw [up_ne (fun e => hk.1 e.symm)]; exact h.2.2.2
theorem WOK_do {T : TT} {fr fc : Int32} {one : Bool} {i : Nat} {w : Nat → Int32} (h : WOK T w) (hi : i < 8) : WOK T (doW T fr fc one i w) := by
  unfold doW
  generalize (if tb T 3 i 1 = 0 then decide (w 4 = tb T 3 i 2 ∧ w 5 = tb T 3 i 3) else decide (one = false ∧ fr = tb T 3 i 2 ∧ fc = tb T 3 i 3)) = b
  cases b
  · exact h
  · rw [if_pos rfl]
    have q := or_rng h.2.1.2.2.1 h.2.1.2.2.2 hi
    refine ⟨WP_up h.1 (by decide) (by decide), ⟨?_, ?_, ?_, ?_⟩, ?_, ?_⟩
    · rw [up_ne (by decide)]; exact h.2.1.1
    · rw [up_ne (by decide)]; exact h.2.1.2.1
    · rw [up_same]; exact q.1
    · rw [up_same]; exact q.2
    · rw [up_ne (by decide)]; exact h.2.2.1
    · rw [up_ne (by decide)]; exact h.2.2.2
theorem WOK_man {T : TT} {fr fc : Int32} {one : Bool} {i : Nat} {w : Nat → Int32} (h : WOK T w) : WOK T (manW T fr fc one i w) := by
  unfold manW
  split
  · exact WOK_up h (by omega)
  · split
    · exact WOK_up (WOK_up h (by omega)) (by omega)
    · exact h
theorem WOK_dos {T : TT} {fr fc : Int32} {one : Bool} : ∀ (n i : Nat) (w : Nat → Int32), i + n ≤ 8 → WOK T w → WOK T (dosW T fr fc one n i w)
  | 0, _, _, _, h => h
  | n + 1, i, w, hi, h => WOK_dos n (i + 1) _ (by omega) (WOK_do h (by omega))
theorem WOK_men {T : TT} {fr fc : Int32} {one : Bool} : ∀ (n i : Nat) (w : Nat → Int32), WOK T w → WOK T (menW T fr fc one n i w)
  | 0, _, _, h => h
  | n + 1, i, w, h => WOK_men n (i + 1) _ (WOK_man h)
theorem WOK_mov {T : TT} {way : Int32} {w : Nat → Int32} (h : WOK T w) (hc : cellB T (w 4 + dnB way) (w 5 + rtB way) = true) : WOK T (movW way w) := by
  have hc := of_decide_eq_true hc
  unfold movW
  refine ⟨⟨?_, ?_, ?_, ?_⟩, WB_up (WB_up h.2.1 (by decide) (by decide)) (by decide) (by decide), ?_, ?_⟩
  · rw [up_ne (by decide), up_same]; exact Int32.not_lt.mp hc.1
  · rw [up_ne (by decide), up_same]; exact Int32.not_le.mp hc.2.1
  · rw [up_same]; exact Int32.not_lt.mp hc.2.2.1
  · rw [up_same]; exact Int32.not_le.mp hc.2.2.2
  · rw [up_ne (by decide), up_ne (by decide)]; exact h.2.2.1
  · rw [up_ne (by decide), up_ne (by decide)]; exact h.2.2.2
theorem openB_cell {T : TT} {tw way : Int32} {w : Nat → Int32} (h : openB T tw w way = true) : cellB T (w 4 + dnB way) (w 5 + rtB way) = true := by
  unfold openB at h
  cases hc : cellB T (w 4 + dnB way) (w 5 + rtB way)
  · rw [hc] at h; simp at h
  · rfl
theorem WOK_step {T : TT} {tw way : Int32} {w : Nat → Int32} (h : WOK T w) (ho : openB T tw w way = true) : WOK T (stepW T tw way w) := by
  unfold stepW
  have := WOK_mov h (openB_cell ho)
  split
  · exact this
  · exact WOK_up this (by decide)
theorem WOK_att {T : TT} {tw way : Int32} {w : Nat → Int32} (h : WOK T w) : WOK T (attW T tw way w) := by
  unfold attW
  split
  · rename_i ho; exact WOK_step h ho
  · exact WOK_up h (by decide)
theorem att_3 {T : TT} {tw way : Int32} {w : Nat → Int32} : attW T tw way w 3 = w 3 := by
  unfold attW stepW movW
  split
  · split
    · rw [up_ne (by decide), up_ne (by decide)]
    · rw [up_ne (by decide), up_ne (by decide), up_ne (by decide)]
  · rw [up_ne (by decide)]
/-- tireless: nobody gets tired -/
theorem att_6 {T : TT} {way : Int32} {w : Nat → Int32} : attW T 4 way w 6 = w 6 := by
  unfold attW stepW movW
  split
  · rw [if_pos rfl, up_ne (by decide), up_ne (by decide)]
  · rw [up_ne (by decide)]
theorem WOK_stp {T : TT} {tw : Int32} : ∀ (n i : Nat) (w : Nat → Int32), WOK T w → WOK T (stpW T tw n i w)
  | 0, _, _, h => h
  | n + 1, i, w, h => by
    refine WOK_stp n (i + 1) _ ?_
    split
    · exact WOK_att h
    · exact h
theorem stp_6 {T : TT} : ∀ (n i : Nat) (w : Nat → Int32), stpW T 4 n i w 6 = w 6
  | 0, _, _ => rfl
  | n + 1, i, w => by
    show stpW T 4 n (i + 1) _ 6 = _
    rw [stp_6 n (i + 1)]
    split
    · exact att_6
    · rfl
theorem WOK_cloud {T : TT} {tw : Int32} {dr : Bool} {w : Nat → Int32} (h : WOK T w) : WOK T (cloudW T tw dr w) := by
  unfold cloudW
  split
  · exact h
  · split
    · exact h
    · exact WOK_up h (by decide)
theorem cloud_6 {T : TT} {tw : Int32} {dr : Bool} {w : Nat → Int32} : cloudW T tw dr w 6 = w 6 := by
  unfold cloudW
  split
  · rfl
  · split
    · rfl
    · rw [up_ne (by decide)]
/-! the class -/
theorem tb_get {T : TT} {q i c : Nat} (h : i < 2 ^ 31) : getI T q (nI i) c = tb T q i c := by
  unfold getI; rw [if_neg (nI_pos h), nI_clamp h]
def TR (S : MS) (w : Nat) (fr fc : Int32) (one : Bool) : Prop := gI S w 12 = fr ∧ gI S w 13 = fc ∧ gI S w 14 = b2i one
theorem TR.put {S : MS} {w o k : Nat} {fr fc v : Int32} {one : Bool} (h : TR S w fr fc one) (hk : k ≠ 12 ∧ k ≠ 13 ∧ k ≠ 14) : TR (pI S o k v) w fr fc one := by
  obtain ⟨h1, h2, h3⟩ := h
  exact ⟨by rw [gI_nek (fun e => hk.1 e.symm)]; exact h1, by rw [gI_nek (fun e => hk.2.1 e.symm)]; exact h2, by rw [gI_nek (fun e => hk.2.2 e.symm)]; exact h3⟩
theorem X_she {w : Nat} {S : MS} {r c : Int32} : fX9_isSheAt w r c S = some (b2i (decide (wX S w 4 = r ∧ wX S w 5 = c))) := by
  have e4 : gI S w 4 = wX S w 4 := rfl
  have e5 : gI S w 5 = wX S w 5 := rfl
  unfold fX9_isSheAt; rw [e4, e5]
  by_cases c1 : wX S w 4 = r <;> by_cases c2 : wX S w 5 = c <;> simp [c1, c2, b2i]
theorem X_it {w : Nat} {S : MS} {fr fc r c : Int32} {one : Bool} (h : TR S w fr fc one) : fX9_isItApartAt w r c S = some (b2i (decide (one = false ∧ fr = r ∧ fc = c))) := by
  unfold fX9_isItApartAt; rw [h.1, h.2.1, h.2.2]
  cases one <;> by_cases c1 : fr = r <;> by_cases c2 : fc = c <;> simp [c1, c2, b2i]
theorem X_do_go {t w : Nat} {T : TT} {fr fc : Int32} {one : Bool} (hw : isW w) (hC : WC T) : ∀ (d i fuel : Nat) (S : MS), nq T 3 = i + d → d < fuel → XO t S → tX S t = T → TR S w fr fc one →
    ∃ S1, fX0_finishDoings_10 fuel w (t + 9) (nI i) S = some S1 ∧ wX S1 w = dosW T fr fc one d i (wX S w) ∧ Fr (PX w) S S1 ∧ TR S1 w fr fc one := by
  have hn := nq_le hC
  have hge := isW_ge hw
  have pw : ∀ j, PX w w j := fun j => Or.inr ⟨Nat.le_refl _, by omega⟩
  intro d
  induction d with
  | zero =>
    intro i fuel S e1 e2 h et hT
    obtain ⟨f, rfl⟩ : ∃ f, fuel = f + 1 := ⟨fuel - 1, by omega⟩
    refine ⟨S, ?_, rfl, Fr.rf, hT⟩
    have es : gI S (t + 9) 3 = nI (nq T 3) := by rw [← et]; exact (nI_back (et ▸ hC 3 (by decide)).1).symm
    unfold fX0_finishDoings_10 fX7_size
    rw [es, Option.bind_some, e1, Nat.add_zero, if_pos (Int32.le_refl _)]
  | succ d ih =>
    intro i fuel S e1 e2 h et hT
    obtain ⟨f, rfl⟩ : ∃ f, fuel = f + 1 := ⟨fuel - 1, by omega⟩
    have es : gI S (t + 9) 3 = nI (nq T 3) := by rw [← et]; exact (nI_back (et ▸ hC 3 (by decide)).1).symm
    have hin : ¬ nI (nq T 3) ≤ nI i := by rw [nI_leI (by omega) (by omega)]; omega
    have hC' : WC (tX S t) := by rw [et]; exact hC
    unfold fX0_finishDoings_10 fX7_size
    rw [es, Option.bind_some, if_neg hin, X_g_3_2 h.1 h.2.1 h.1.1 hC', Option.bind_some, X_g_3_3 h.1 h.2.1 h.1.1 hC', Option.bind_some, X_g_3_1 h.1 h.2.1 h.1.1 hC', Option.bind_some, et, tb_get (by omega), tb_get (by omega), tb_get (by omega)]
    -- go on with or without it
    have no : ∃ S1, fX0_finishDoings_92 (fX0_finishDoings_10 f) w (t + 9) (nI i) S = some S1 ∧ wX S1 w = dosW T fr fc one d (i + 1) (wX S w) ∧ Fr (PX w) S S1 ∧ TR S1 w fr fc one := by
      unfold fX0_finishDoings_92; rw [nI_1]
      exact ih (i + 1) f S (by omega) (by omega) h et hT
    have yes : ∃ S1, fX0_finishDoings_80 (fX0_finishDoings_10 f) w (t + 9) (nI i) S = some S1 ∧ wX S1 w = dosW T fr fc one d (i + 1) (up (wX S w) 8 (wX S w 8 ||| (1 <<< (nI i &&& 31)))) ∧ Fr (PX w) S S1 ∧ TR S1 w fr fc one := by
      unfold fX0_finishDoings_80 fX0_finishDoings_92; rw [nI_1]
      have fr1 : Fr (PX w) S (pI S w 8 (gI S w 8 ||| (1 <<< (nI i &&& 31)))) := Fr.rf.pI (pw 8)
      obtain ⟨S1, q1, q2, q3, q4⟩ := ih (i + 1) f _ (by omega) (by omega) (h.fr hw fr1) ((h.told hw fr1).trans et) (hT.put (by decide))
      exact ⟨S1, q1, by rw [q2, wX_own (by decide) (by decide)]; rfl, fr1.tr q3, q4⟩
    show ∃ S1, _ ∧ wX S1 w = dosW T fr fc one d (i + 1) (doW T fr fc one i (wX S w)) ∧ _
    unfold fX0_finishDoings_48 doW
    by_cases c0 : tb T 3 i 1 = 0
    · rw [if_pos c0, if_neg (by decide), X_she, Option.bind_some, if_pos c0]
      generalize decide (wX S w 4 = tb T 3 i 2 ∧ wX S w 5 = tb T 3 i 3) = b
      cases b
      · rw [if_pos (show b2i false = 0 from rfl), if_neg (by decide)]; exact no
      · rw [if_neg (by decide), if_pos rfl]; exact yes
    · rw [if_neg c0, if_pos rfl, X_it hT, Option.bind_some, if_neg c0]
      generalize decide (one = false ∧ fr = tb T 3 i 2 ∧ fc = tb T 3 i 3) = b
      cases b
      · rw [if_pos (show b2i false = 0 from rfl), if_neg (by decide)]; exact no
      · rw [if_neg (by decide), if_pos rfl]; exact yes
