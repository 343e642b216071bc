/-! ===== a law's line, whole ===== -/
theorem M_law {t n a e k : Nat} {bt : Nat → Nat} {SX SM : MS} (h : JO t n bt a e SX SM) (hk : k < 3) (hs : gI SM 0 32 = 0) (hv : gI SM 0 33 = nI (11 + k)) : fX11_lawLine 0 SM = if ((gI SM 0 27) >>> (nI (16 + k) &&& 31)) &&& 1 = 1 then (fX11_wrong 0 3 SM).bind (fun q16 => fX11_lawLine_65 0 (nI k) q16) else fX11_lawLine_65 0 (nI k) SM := by
  have e11 : nI (11 + k) - 11 = nI k := by rw [show (11 : Int32) = nI 11 from rfl, nI_subN (by omega), show 11 + k - 11 = k by omega]
  unfold fX11_lawLine fX11_lawLine_30
  rw [if_pos hs, hv, if_neg (show ¬ nI (11 + k) < 11 from fun q => absurd ((nI_ltI (show 11 + k < 2 ^ 31 by omega) (show (11 : Nat) < 2 ^ 31 by decide)).mp q) (by omega)), if_pos (show nI (11 + k) ≤ 13 from (nI_leI (show 11 + k < 2 ^ 31 by omega) (show (13 : Nat) < 2 ^ 31 by decide)).mpr (by omega)), if_pos h.2.2.2.1, e11, show (16 : Int32) + nI k = nI (16 + k) from nI_add 16 k]
theorem law_told {t n u k z a e : Nat} {bt : Nat → Nat} {SX SM : MS} (h : JO t n bt a e SX SM) (hu : isT u) (h9 : gR SX 48 9 = u) (hk : k < 3) (h5 : gI SX 48 5 = nI (31 + k)) (hs : gI SM 0 32 = 0) (hv : gI SM 0 33 = nI (11 + k)) (hz : gI SX (u + 14 + 3 * k) 2 = nI z) (z64 : z ≤ 64) (z0 : z ≠ 0) (hb : ((gI SM 0 27) >>> (nI (16 + k) &&& 31)) &&& 1 = 1) :
    ∃ SX1 SM1, lawX SX = some SX1 ∧ fX11_lawLine 0 SM = some SM1 ∧ JF t n bt SX1 SM1 ∧ Fr (PLw u (u + 14 + 3 * k)) (pR SX 48 10 (u + 14 + 3 * k)) SX1 ∧ Fr NN SM SM1 := by
  have hu' := hu
  unfold isT at hu'
  have hL : isL u (u + 14 + 3 * k) := by unfold isL; omega
  rw [lawX_eq h.1 hu h9 hk h5 hz z64, if_neg z0, M_law h hk hs hv, if_pos hb]
  generalize hS : pR SX 48 10 (u + 14 + 3 * k) = S
  have jS : JO t n bt a e S SM := by rw [← hS]; exact h.p10
  have r10 : gR S 48 10 = u + 14 + 3 * k := by rw [← hS, gR_pR, if_pos ⟨rfl, rfl⟩]
  have r9 : gR S 48 9 = u := by rw [← hS, gR_pR, if_neg (by decide)]; exact h9
  have zS : gI S (u + 14 + 3 * k) 2 = nI z := by rw [← hS, gI_pR]; exact hz
  obtain ⟨A1, B1, c1, c2, c3, c4, c5⟩ := j_fail (f := 3) jS (by decide)
  have z34 : gI B1 0 34 ≠ 0 := by
    obtain ⟨f, w, q1, _, q2, _⟩ := c3
    rw [q2]; exact q1.2.2.1
  obtain ⟨f, w, x1, m1, m2, m3⟩ := c3
  obtain ⟨A2, d1, d2, d3⟩ := X_next_f x1
  have fA : Fr NY S A2 := c4.tr d3
  have xA : XF t n bt f w (pI (pI A2 48 11 0) 48 12 0) := (d2.wr hu (PD48 (by decide)) (fun _ => by decide)).wr hu (PD48 (by decide)) (fun _ => by decide)
  have lf : LF t n bt u (u + 14 + 3 * k) 0 S B1 (pI (pI A2 48 11 0) 48 12 0) B1 := by
    refine ⟨⟨f, w, xA, m1, m2, m3⟩, hu, hL, ?_, ?_, ⟨[], ?_, by decide, True.intro⟩, ⟨z, ?_, z64⟩, ?_, Fr.rf⟩
    · rw [gR_pI, gR_pI, fA.ref]; exact r9
    · rw [gR_pI, gR_pI, fA.ref]; exact r10
    · rw [gI_nek (by decide), gI_same]; rfl
    · rw [gI_neo (by omega), gI_neo (by omega), fA.2 _ _ (fun hp => by unfold NY at hp; omega)]; exact zS
    · have g : Fr (PLw u (u + 14 + 3 * k)) S A2 := fA.mo (fun o j hp => by unfold NY at hp; unfold PLw; omega)
      exact (g.pI (Or.inl ⟨rfl, by decide⟩)).pI (Or.inl ⟨rfl, by decide⟩)
  obtain ⟨SXf, y1, y2⟩ := lf_run (fuel := 999) (d := 1) (i := 0) lf
  refine ⟨SXf, B1, ?_, ?_, y2.1, y2.2.1, c5⟩
  · unfold fX5_once fX5_once_13
    rw [if_neg (show ¬ (1 : Int32) = 0 by decide), c1, Option.bind_some, d1, Option.bind_some, Option.bind_some]
    unfold fX5_readE
    rw [y1, Option.bind_some]
  · rw [c2, Option.bind_some]
    unfold fX11_lawLine_65
    rw [if_neg z34]
theorem law_new {t n u k kn a e : Nat} {bt : Nat → Nat} {SX SM : MS} (h : JO t n bt a e SX SM) (hu : isT u) (h9 : gR SX 48 9 = u) (hk : k < 3) (h5 : gI SX 48 5 = nI (31 + k)) (hs : gI SM 0 32 = 0) (hv : gI SM 0 33 = nI (11 + k)) (hz : gI SX (u + 14 + 3 * k) 2 = 0) (hb : ¬ ((gI SM 0 27) >>> (nI (16 + k) &&& 31)) &&& 1 = 1) (xk : gI SX u 15 = nI kn) (mk : gI SM 0 39 = nI kn) (m25 : gI SM 2 25 = nI kn) (k64 : kn ≤ 64) (m38 : gI SM 0 38 = 0) :
    ∃ S R SX1 SM2, S.2.1 = (pR SX 48 10 (u + 14 + 3 * k)).2.1 ∧ Fr (fun o j => NX o j ∨ (o = 48 ∧ (j = 11 ∨ j = 12))) (pR SX 48 10 (u + 14 + 3 * k)) S ∧ Fr (fun o j => NM o j ∨ (o = 0 ∧ j = 27) ∨ (o = 21 ∧ j = 3 + k)) SM R ∧ gI R 0 27 = (gI SM 0 27 ||| ((1 : Int32) <<< (nI (16 + k) &&& 31))) ∧ gI R 21 (3 + k) = nI kn ∧ lawX SX = some SX1 ∧ fX11_expression 0 R = some SM2 ∧ (MR SM2 → fX11_lawLine 0 SM = some (pI SM2 22 (3 + k) (gI SM2 2 25))) ∧
    ((LE t n bt u (u + 14 + 3 * k) kn S R SX1 SM2) ∨ (∃ O a1 e1 kn1, LJ t n bt u (u + 14 + 3 * k) kn a1 e1 [] O O kn1 0 S R SX1 SM2 ∧ HG O ∧ kn1 = kn + O.length) ∨ (∃ B, gI SM2 0 34 = 0 ∧ (gI SM2 0 32 = 3 → gI SM2 0 33 ≠ 59) ∧ fX11_wrong 0 1 SM2 = some B ∧ LE t n bt u (u + 14 + 3 * k) kn S R SX1 B)) := by
  have hu' := hu
  unfold isT at hu'
  have hL : isL u (u + 14 + 3 * k) := by unfold isL; omega
  have hz' : gI SX (u + 14 + 3 * k) 2 = nI 0 := hz
  rw [lawX_eq h.1 hu h9 hk h5 hz' (by decide), if_pos rfl]
  generalize hS : pR SX 48 10 (u + 14 + 3 * k) = S
  have jS : JO t n bt a e S SM := by rw [← hS]; exact h.p10
  have r10 : gR S 48 10 = u + 14 + 3 * k := by rw [← hS, gR_pR, if_pos ⟨rfl, rfl⟩]
  have r9 : gR S 48 9 = u := by rw [← hS, gR_pR, if_neg (by decide)]; exact h9
  have gS : ∀ o j, gI S o j = gI SX o j := fun o j => by rw [← hS, gI_pR]
  have ae : a < e := by
    rcases h.2.2.2.2.2.2.2.2.2.1 with ⟨q, _⟩ | ⟨_, q⟩
    · rw [h5] at q
      have := (nI_eq (show 31 + k < 2 ^ 31 by omega) (show 0 < 2 ^ 31 by decide)).mp q
      omega
    · exact q
  have jM : JO t n bt a e S (pI SM 0 27 (gI SM 0 27 ||| ((1 : Int32) <<< (nI (16 + k) &&& 31)))) := jS.pM (by decide) (fun _ => by decide)
  obtain ⟨A, B, a1, e1, n1, n2, n3, n4, n5, _, n7⟩ := j_next jM
  have fS : Fr (fun o j => NX o j ∨ (o = 48 ∧ (j = 11 ∨ j = 12))) S (pI (pI A 48 11 0) 48 12 0) := by
    have g : Fr (fun o j => NX o j ∨ (o = 48 ∧ (j = 11 ∨ j = 12))) S A := n4.mo (fun _ _ hp => Or.inl hp)
    exact (g.pI (Or.inr ⟨rfl, Or.inl rfl⟩)).pI (Or.inr ⟨rfl, Or.inr rfl⟩)
  have fR : Fr (fun o j => NM o j ∨ (o = 0 ∧ j = 27) ∨ (o = 21 ∧ j = 3 + k)) SM (pI B 21 (3 + k) (nI kn)) := by
    have g0 : Fr (fun o j => NM o j ∨ (o = 0 ∧ j = 27) ∨ (o = 21 ∧ j = 3 + k)) SM (pI SM 0 27 (gI SM 0 27 ||| ((1 : Int32) <<< (nI (16 + k) &&& 31)))) := Fr.rf.pI (Or.inr (Or.inl ⟨rfl, rfl⟩))
    exact (g0.tr (n5.mo (fun _ _ hp => Or.inl hp))).pI (Or.inr (Or.inr ⟨rfl, rfl⟩))
  have hB := n3.2.1.1
  have b25 : gI B 2 25 = nI kn := by rw [n5.2 _ _ (fun hp => by unfold NM at hp; omega), gI_neo (by decide)]; exact m25
  have lj : LJ t n bt u (u + 14 + 3 * k) kn a1 e1 [] [] [] kn 0 (pI (pI A 48 11 0) 48 12 0) (pI B 21 (3 + k) (nI kn)) (pI (pI A 48 11 0) 48 12 0) (pI B 21 (3 + k) (nI kn)) := by
    refine ⟨((n3.pX hu (PD48 (by decide)) (fun _ => by decide)).pX hu (PD48 (by decide)) (fun _ => by decide)).pM (by decide) (fun e => by omega), hu, hL, ?_, ?_, ⟨?_, by decide, True.intro⟩, ?_, rfl, ?_, rfl, ?_, ?_, k64, gI_same, ?_, by decide, rfl, by show 0 + (kn + 0) ≤ kn + 0; omega, fun i hi => absurd hi (by show ¬ i < 0; omega), Fr.rf, Fr.rf⟩
    · rw [gR_pI, gR_pI, n4.ref]; exact r9
    · rw [gR_pI, gR_pI, n4.ref]; exact r10
    · rw [gI_nek (by decide), gI_same]; rfl
    · rw [gI_neo (by omega), gI_neo (by omega), n4.2 _ _ (fun hp => by unfold NX at hp; omega), gS]; exact hz
    · rw [gI_neo (by decide)]; exact b25
    · rw [gI_neo (by omega), gI_neo (by omega), n4.2 _ _ (fun hp => by unfold NX at hp; omega), gS]; exact xk
    · rw [gI_neo (by decide), n5.2 _ _ (fun hp => by unfold NM at hp; omega), gI_nek (by decide)]; exact mk
    · rw [gI_neo (by decide), n5.2 _ _ (fun hp => by unfold NM at hp; omega), gI_nek (by decide)]; exact m38
  have eX : ∀ SX1, rn 1 0 (pI (pI A 48 11 0) 48 12 0) = some SX1 → ((fX5_once 48 0 S).bind fun q14 => (fX5_readE 48 q14).bind fun q16 => some q16) = some SX1 := fun SX1 q => by
    have q' : fX5_readE 48 A = some SX1 := q
    unfold fX5_once fX5_once_13
    rw [if_pos rfl, n1, Option.bind_some, Option.bind_some, q', Option.bind_some]
  have eM : ∀ SM2, fX11_expression 0 (pI B 21 (3 + k) (nI kn)) = some SM2 → (MR SM2 → fX11_lawLine 0 SM = some (pI SM2 22 (3 + k) (gI SM2 2 25))) := fun SM2 q hM => by
    have f1 : fX11_fresher 0 (12 : Int32) B = some (nI kn) := (M_fre hB (j := 12) (by decide)).trans (congrArg some b25)
    have f2 : fX11_fresher 0 (12 : Int32) SM2 = some (gI SM2 2 25) := M_fre hM (j := 12) (by decide)
    rw [M_law h hk hs hv, if_neg hb]
    unfold fX11_lawLine_65
    rw [if_pos h.2.2.2.1, show (16 : Int32) + nI k = nI (16 + k) from nI_add 16 k, n2, Option.bind_some, f1, Option.bind_some, mr_22 hB, lm_21, show (3 : Int32) + nI k = nI (3 + k) from nI_add 3 k, bnd_nI (show 3 + k < 6 by omega) (by decide), if_pos rfl, nI_clamp (by omega), q, Option.bind_some, f2, Option.bind_some, mr_23 hM, lm_22, bnd_nI (show 3 + k < 6 by omega) (by decide), if_pos rfl]
  have c27 : gI (pI B 21 (3 + k) (nI kn)) 0 27 = (gI SM 0 27 ||| ((1 : Int32) <<< (nI (16 + k) &&& 31))) := by
    rw [gI_neo (by decide), n5.2 _ _ (fun hp => by unfold NM at hp; omega), gI_same]
  have rS : (pI (pI A 48 11 0) 48 12 0).2.1 = S.2.1 := fS.1
  rcases law_expr lj (by omega) with ⟨SXf, SM1, x1, x2, x3⟩ | ⟨O, a2, e2, kn1, SX1, SM1, x1, x2, x3, x4⟩ | ⟨SXf, SM1, B', x1, x2, x3, x4, x5, x6⟩
  · exact ⟨_, _, SXf, SM1, rS, fS, fR, c27, gI_same, eX _ x1, x2, eM _ x2, Or.inl x3⟩
  · exact ⟨_, _, SX1, SM1, rS, fS, fR, c27, gI_same, eX _ x1, x2, eM _ x2, Or.inr (Or.inl ⟨O, a2, e2, kn1, x3, x4⟩)⟩
  · exact ⟨_, _, SXf, SM1, rS, fS, fR, c27, gI_same, eX _ x1, x2, eM _ x2, Or.inr (Or.inr ⟨B', x3, x4, x5, x6⟩)⟩
