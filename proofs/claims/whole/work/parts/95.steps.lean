/-! ===== the steps of a line, both sides: sound, and behind a fault ===== -/
def NY (o j : Nat) : Prop := o = 48 ∧ ((4 ≤ j ∧ j ≤ 8) ∨ j = 16 ∨ j = 17)
def NN (o j : Nat) : Prop := o = 0 ∧ ((30 ≤ j ∧ j ≤ 33) ∨ j = 34 ∨ j = 35)
theorem NX_NY : ∀ o j, NX o j → NY o j := fun _ _ h => ⟨h.1, Or.inl h.2⟩
theorem NM_NN : ∀ o j, NM o j → NN o j := fun _ _ h => ⟨h.1, Or.inl h.2⟩
theorem kNY : ∀ q ∈ kXl, ¬ NY q.1 q.2.1 := by unfold NY; decide
theorem XL.fy {t n : Nat} {bt : Nat → Nat} {S S1 : MS} (h : XL t n bt S) (f : Fr NY S S1) : XL t n bt S1 := by
  obtain ⟨h1, h2, h3, h4, h5, h6⟩ := h
  exact ⟨h1.of f.1, h2.fr f kNY, by rw [f.ref]; exact h3, by rw [f.2 _ _ (fun hp => by unfold NY at hp; omega)]; exact h4, h5, fun i hi => by rw [f.2 _ _ (fun hp => by unfold NY at hp; omega)]; exact h6 i hi⟩
theorem ML.fy {n : Nat} {bt : Nat → Nat} {S S1 : MS} (h : ML n bt S) (f : Fr NN S S1) : ML n bt S1 := by
  obtain ⟨h1, h2, h3, h4⟩ := h
  exact ⟨h1.of f.1, by rw [f.2 _ _ (fun hp => by unfold NN at hp; omega)]; exact h2, h3, fun i hi => by rw [f.2 _ _ (fun hp => by unfold NN at hp; omega)]; exact h4 i hi⟩
/-! kinds and sorts -/
theorem w20 {i c : Nat} (hi : i < 24) (hc : c < 100) : nI (20 + i) = nI c ↔ c = 20 + i := by
  rw [nI_eq (by omega) (by omega)]
  exact ⟨fun e => e.symm, fun e => e.symm⟩
theorem TK.num {k v so va : Int32} (h : TK k v so va) : k = 3 ↔ so = 2 := by
  rcases h with ⟨rfl, rfl⟩ | ⟨rfl, rfl⟩ | ⟨rfl, rfl, _⟩ | ⟨rfl, rfl, _⟩ | ⟨rfl, q⟩ | ⟨rfl, i, hi, rfl, rfl⟩
  · decide
  · decide
  · decide
  · decide
  · rcases of_decide_eq_true q with q | q | q | q | q | q | q | q | q | q | q | q | q <;> (rw [q.1]; decide)
  · exact ⟨fun e => by have := (w20 (c := 3) hi (by decide)).mp e; omega, fun e => absurd e (by decide)⟩
theorem TK.own {k v so va : Int32} (h : TK k v so va) : k = 2 ↔ so = 1 := by
  rcases h with ⟨rfl, rfl⟩ | ⟨rfl, rfl⟩ | ⟨rfl, rfl, _⟩ | ⟨rfl, rfl, _⟩ | ⟨rfl, q⟩ | ⟨rfl, i, hi, rfl, rfl⟩
  · decide
  · decide
  · decide
  · decide
  · rcases of_decide_eq_true q with q | q | q | q | q | q | q | q | q | q | q | q | q <;> (rw [q.1]; decide)
  · exact ⟨fun e => by have := (w20 (c := 2) hi (by decide)).mp e; omega, fun e => absurd e (by decide)⟩
theorem TK.fin {k v so va : Int32} (h : TK k v so va) : k = 0 ↔ so = 4 := by
  rcases h with ⟨rfl, rfl⟩ | ⟨rfl, rfl⟩ | ⟨rfl, rfl, _⟩ | ⟨rfl, rfl, _⟩ | ⟨rfl, q⟩ | ⟨rfl, i, hi, rfl, rfl⟩
  · decide
  · decide
  · decide
  · decide
  · rcases of_decide_eq_true q with q | q | q | q | q | q | q | q | q | q | q | q | q <;> (rw [q.1]; decide)
  · exact ⟨fun e => by have := (w20 (c := 0) hi (by decide)).mp e; omega, fun e => absurd e (by decide)⟩
theorem TK.wrd {k v so va : Int32} {j : Nat} (h : TK k v so va) (hj : j < 24) : k = nI (20 + j) ↔ (so = 0 ∧ va = nI j) := by
  have nw : ∀ c, c < 20 → ¬ nI c = nI (20 + j) := fun c hc e => by have := (nI_eq (show c < 2 ^ 31 by omega) (show 20 + j < 2 ^ 31 by omega)).mp e; omega
  rcases h with ⟨rfl, rfl⟩ | ⟨rfl, rfl⟩ | ⟨rfl, rfl, _⟩ | ⟨rfl, rfl, _⟩ | ⟨rfl, q⟩ | ⟨rfl, i, hi, rfl, rfl⟩
  · exact ⟨fun e => absurd e (nw 0 (by decide)), fun e => absurd e.1 (by decide)⟩
  · exact ⟨fun e => absurd e (nw 1 (by decide)), fun e => absurd e.1 (by decide)⟩
  · exact ⟨fun e => absurd e (nw 2 (by decide)), fun e => absurd e.1 (by decide)⟩
  · exact ⟨fun e => absurd e (nw 3 (by decide)), fun e => absurd e.1 (by decide)⟩
  · refine ⟨fun e => ?_, fun e => absurd e.1 (by decide)⟩
    rcases of_decide_eq_true q with q | q | q | q | q | q | q | q | q | q | q | q | q
    · exact absurd (q.1.symm.trans e) (nw 4 (by decide))
    · exact absurd (q.1.symm.trans e) (nw 5 (by decide))
    · exact absurd (q.1.symm.trans e) (nw 6 (by decide))
    · exact absurd (q.1.symm.trans e) (nw 7 (by decide))
    · exact absurd (q.1.symm.trans e) (nw 8 (by decide))
    · exact absurd (q.1.symm.trans e) (nw 9 (by decide))
    · exact absurd (q.1.symm.trans e) (nw 10 (by decide))
    · exact absurd (q.1.symm.trans e) (nw 11 (by decide))
    · exact absurd (q.1.symm.trans e) (nw 12 (by decide))
    · exact absurd (q.1.symm.trans e) (nw 13 (by decide))
    · exact absurd (q.1.symm.trans e) (nw 14 (by decide))
    · exact absurd (q.1.symm.trans e) (nw 15 (by decide))
    · exact absurd (q.1.symm.trans e) (nw 16 (by decide))
  · rw [nI_eq (by omega) (by omega), nI_eq (by omega) (by omega)]
    exact ⟨fun e => ⟨rfl, by omega⟩, fun e => by have := e.2; omega⟩
/-- the sign of a kind -/
def sgV (c : Nat) : Int32 := [0, 0, 0, 0, 59, 40, 41, 43, 45, 42, 47, 60, 256, 61, 257, 258, 62].getD c 0
theorem sgV_dec : ∀ c, c < 17 → ∀ d, d < 17 → 4 ≤ c → 4 ≤ d → (nI c = nI d ↔ sgV c = sgV d) := by decide +kernel
theorem TK.sgn {k v so va : Int32} {c : Nat} (h : TK k v so va) (h1 : 4 ≤ c) (h2 : c < 17) : k = nI c ↔ (so = 3 ∧ va = sgV c) := by
  have nw : ∀ d, d < 100 → d ≠ c → ¬ nI d = nI c := fun d hd hn e => hn ((nI_eq (show d < 2 ^ 31 by omega) (show c < 2 ^ 31 by omega)).mp e)
  have cs : ∀ d, d < 17 → 4 ≤ d → k = nI d → va = sgV d → (k = nI c ↔ ((3 : Int32) = 3 ∧ va = sgV c)) := fun d hd hd4 e1 e2 => by
    rw [e1, e2, sgV_dec d hd c h2 hd4 h1]
    exact ⟨fun e => ⟨rfl, e⟩, fun e => e.2⟩
  rcases h with ⟨rfl, rfl⟩ | ⟨rfl, rfl⟩ | ⟨rfl, rfl, _⟩ | ⟨rfl, rfl, _⟩ | ⟨rfl, q⟩ | ⟨rfl, i, hi, rfl, rfl⟩
  · exact ⟨fun e => absurd e (nw 0 (by decide) (by omega)), fun e => absurd e.1 (by decide)⟩
  · exact ⟨fun e => absurd e (nw 1 (by decide) (by omega)), fun e => absurd e.1 (by decide)⟩
  · exact ⟨fun e => absurd e (nw 2 (by decide) (by omega)), fun e => absurd e.1 (by decide)⟩
  · exact ⟨fun e => absurd e (nw 3 (by decide) (by omega)), fun e => absurd e.1 (by decide)⟩
  · rcases of_decide_eq_true q with q | q | q | q | q | q | q | q | q | q | q | q | q
    · exact cs 4 (by decide) (by decide) q.1 q.2
    · exact cs 5 (by decide) (by decide) q.1 q.2
    · exact cs 6 (by decide) (by decide) q.1 q.2
    · exact cs 7 (by decide) (by decide) q.1 q.2
    · exact cs 8 (by decide) (by decide) q.1 q.2
    · exact cs 9 (by decide) (by decide) q.1 q.2
    · exact cs 10 (by decide) (by decide) q.1 q.2
    · exact cs 11 (by decide) (by decide) q.1 q.2
    · exact cs 12 (by decide) (by decide) q.1 q.2
    · exact cs 13 (by decide) (by decide) q.1 q.2
    · exact cs 14 (by decide) (by decide) q.1 q.2
    · exact cs 15 (by decide) (by decide) q.1 q.2
    · exact cs 16 (by decide) (by decide) q.1 q.2
  · exact ⟨fun e => absurd e (nw (20 + i) (by omega) (by omega)), fun e => absurd e.1 (by decide)⟩
/-! the two modes -/
def LSy (g n a e : Nat) (SX SM : MS) : Prop := gI SX 48 7 = nI a ∧ gI SM 0 31 = nI a ∧ gI SX 48 4 = nI e ∧ gI SM 0 30 = nI e ∧ (e ≤ n ∧ g ≤ a ∧ gI SX 48 17 = -1 ∧ gI SM 0 35 = -1) ∧ ((gI SX 48 5 = 0 ∧ a = n ∧ e = n) ∨ (gI SX 48 5 ≠ 0 ∧ a < e)) ∧ TK (gI SX 48 5) (gI SX 48 6) (gI SM 0 32) (gI SM 0 33)
def JO (t n : Nat) (bt : Nat → Nat) (a e : Nat) (SX SM : MS) : Prop := XL t n bt SX ∧ ML n bt SM ∧ gI SX 48 16 = 0 ∧ gI SM 0 34 = 0 ∧ LSy (bt 1000) n a e SX SM
def XF (t n : Nat) (bt : Nat → Nat) (f w : Int32) (SX : MS) : Prop := XL t n bt SX ∧ gI SX 48 16 = f ∧ f ≠ 0 ∧ gI SX 48 17 = w ∧ gI SX 48 5 = 0 ∧ gI SX 48 4 = nI n
def JF (t n : Nat) (bt : Nat → Nat) (SX SM : MS) : Prop := ∃ f w, XF t n bt f w SX ∧ ML n bt SM ∧ gI SM 0 34 = f ∧ gI SM 0 35 = w
def JJ (t n : Nat) (bt : Nat → Nat) (SX SM : MS) : Prop := (∃ a e, JO t n bt a e SX SM) ∨ JF t n bt SX SM
theorem JF.no {t n : Nat} {bt : Nat → Nat} {SX SM : MS} (h : JF t n bt SX SM) {a e : Nat} (g : JO t n bt a e SX SM) : False := by
  obtain ⟨f, w, h1, _⟩ := h
  exact h1.2.2.1 (h1.2.1.symm.trans g.2.2.1)
theorem X_fail {t n : Nat} {bt : Nat → Nat} {f w : Int32} {S : MS} (h : XL t n bt S) (h0 : gI S 48 16 = 0) (hf : f ≠ 0) : ∃ S1, fX5_fail 48 f w S = some S1 ∧ XF t n bt f w S1 ∧ Fr NY S S1 := by
  unfold fX5_fail fX5_fail_17
  rw [if_pos h0]
  have q : ∀ j, ((4 ≤ j ∧ j ≤ 8) ∨ j = 16 ∨ j = 17) → NY 48 j := fun j hj => ⟨rfl, hj⟩
  have fr : Fr NY S (pI (pI (pI (pI S 48 16 f) 48 17 w) 48 5 0) 48 4 (gI (pI (pI (pI S 48 16 f) 48 17 w) 48 5 0) 48 3)) := (((Fr.rf.pI (q 16 (by omega))).pI (q 17 (by omega))).pI (q 5 (by omega))).pI (q 4 (by omega))
  refine ⟨_, rfl, ⟨h.fy fr, ?_, hf, ?_, ?_, ?_⟩, fr⟩
  · rw [gI_nek (by decide), gI_nek (by decide), gI_nek (by decide), gI_same]
  · rw [gI_nek (by decide), gI_nek (by decide), gI_same]
  · rw [gI_nek (by decide), gI_same]
  · rw [gI_same, gI_nek (by decide), gI_nek (by decide), gI_nek (by decide)]; exact h.2.2.2.1
theorem X_fail_f {t n : Nat} {bt : Nat → Nat} {f w g v : Int32} {S : MS} (h : XF t n bt f w S) : ∃ S1, fX5_fail 48 g v S = some S1 ∧ XF t n bt f w S1 ∧ Fr NY S S1 := by
  obtain ⟨h1, h2, h3, h4, h5, h6⟩ := h
  unfold fX5_fail fX5_fail_17
  rw [if_neg (by rw [h2]; exact h3)]
  have q : ∀ j, ((4 ≤ j ∧ j ≤ 8) ∨ j = 16 ∨ j = 17) → NY 48 j := fun j hj => ⟨rfl, hj⟩
  have fr : Fr NY S (pI (pI S 48 5 0) 48 4 (gI (pI S 48 5 0) 48 3)) := (Fr.rf.pI (q 5 (by omega))).pI (q 4 (by omega))
  refine ⟨_, rfl, ⟨h1.fy fr, ?_, h3, ?_, ?_, ?_⟩, fr⟩
  · rw [gI_nek (by decide), gI_nek (by decide)]; exact h2
  · rw [gI_nek (by decide), gI_nek (by decide)]; exact h4
  · rw [gI_nek (by decide), gI_same]
  · rw [gI_same, gI_nek (by decide)]; exact h1.2.2.2.1
theorem X_next_f {t n : Nat} {bt : Nat → Nat} {f w : Int32} {S : MS} (h : XF t n bt f w S) : ∃ S1, fX5_next 48 S = some S1 ∧ XF t n bt f w S1 ∧ Fr NY S S1 := by
  obtain ⟨h1, h2, h3, h4, h5, h6⟩ := h
  have hn := h1.2.2.2.2.1
  have q : ∀ j, ((4 ≤ j ∧ j ≤ 8) ∨ j = 16 ∨ j = 17) → NY 48 j := fun j hj => ⟨rfl, hj⟩
  show ∃ S1, fX5_next_8 (999 + 1) 48 (pI S 48 8 (gI S 48 7)) = some S1 ∧ _
  unfold fX5_next_8 fX5_next_60
  rw [gI_nek (show (4 : Nat) ≠ 8 by decide), gI_nek (show (3 : Nat) ≠ 8 by decide), h6, h1.2.2.2.1, if_pos ((nI_leI (by omega) (by omega)).mpr (Nat.le_refl n)), gI_nek (show (4 : Nat) ≠ 6 by decide), gI_nek (show (4 : Nat) ≠ 7 by decide), gI_nek (show (4 : Nat) ≠ 8 by decide), gI_nek (show (3 : Nat) ≠ 6 by decide), gI_nek (show (3 : Nat) ≠ 7 by decide), gI_nek (show (3 : Nat) ≠ 8 by decide), h6, h1.2.2.2.1, if_neg (fun e => Nat.lt_irrefl n ((nI_ltI (by omega) (by omega)).mp e))]
  have fr : Fr NY S (pI (pI (pI (pI S 48 8 (gI S 48 7)) 48 7 (nI n)) 48 6 0) 48 5 0) := (((Fr.rf.pI (q 8 (by omega))).pI (q 7 (by omega))).pI (q 6 (by omega))).pI (q 5 (by omega))
  refine ⟨_, rfl, ⟨h1.fy fr, ?_, h3, ?_, ?_, ?_⟩, fr⟩
  · rw [gI_nek (by decide), gI_nek (by decide), gI_nek (by decide), gI_nek (by decide)]; exact h2
  · rw [gI_nek (by decide), gI_nek (by decide), gI_nek (by decide), gI_nek (by decide)]; exact h4
  · rw [gI_same]
  · rw [gI_nek (by decide), gI_nek (by decide), gI_nek (by decide), gI_nek (by decide)]; exact h6
theorem M_wrong {n : Nat} {bt : Nat → Nat} {f : Int32} {S : MS} (h : ML n bt S) (h0 : gI S 0 34 = 0) : ∃ S1, fX11_wrong 0 f S = some S1 ∧ ML n bt S1 ∧ gI S1 0 34 = f ∧ gI S1 0 35 = gI S 0 31 ∧ Fr NN S S1 ∧ gI S1 0 32 = gI S 0 32 ∧ gI S1 0 33 = gI S 0 33 := by
  unfold fX11_wrong
  rw [if_pos h0]
  have q : ∀ j, ((30 ≤ j ∧ j ≤ 33) ∨ j = 34 ∨ j = 35) → NN 0 j := fun j hj => ⟨rfl, hj⟩
  have fr : Fr NN S (pI (pI S 0 34 f) 0 35 (gI (pI S 0 34 f) 0 31)) := (Fr.rf.pI (q 34 (by omega))).pI (q 35 (by omega))
  refine ⟨_, rfl, h.fy fr, ?_, ?_, fr, ?_, ?_⟩
  · rw [gI_nek (by decide), gI_same]
  · rw [gI_same, gI_nek (by decide)]
  · rw [gI_nek (by decide), gI_nek (by decide)]
  · rw [gI_nek (by decide), gI_nek (by decide)]
/-- both fail at the sign they stand at -/
theorem j_fail {t n a e : Nat} {bt : Nat → Nat} {f : Int32} {SX SM : MS} (h : JO t n bt a e SX SM) (hf : f ≠ 0) : ∃ SX1 SM1, fX5_fail 48 f (gI SX 48 7) SX = some SX1 ∧ fX11_wrong 0 f SM = some SM1 ∧ JF t n bt SX1 SM1 ∧ Fr NY SX SX1 ∧ Fr NN SM SM1 := by
  obtain ⟨h1, h2, h3, h4, h5⟩ := h
  obtain ⟨SX1, a1, a2, a3⟩ := X_fail (w := gI SX 48 7) h1 h3 hf
  obtain ⟨SM1, b1, b2, b3, b4, b5, _⟩ := M_wrong (f := f) h2 h4
  exact ⟨SX1, SM1, a1, b1, ⟨f, _, a2, b2, b3, by rw [b4, h5.2.1, h5.1]⟩, a3, b5⟩
/-- both take the next sign -/
theorem j_next {t n a e : Nat} {bt : Nat → Nat} {SX SM : MS} (h : JO t n bt a e SX SM) : ∃ SX1 SM1 a1 e1, fX5_next 48 SX = some SX1 ∧ fX11_token 0 SM = some SM1 ∧ JO t n bt a1 e1 SX1 SM1 ∧ Fr NX SX SX1 ∧ Fr NM SM SM1 ∧ gI SX1 48 8 = gI SX 48 7 ∧ e ≤ a1 := by
  obtain ⟨h1, h2, h3, h4, h5⟩ := h
  obtain ⟨SX1, SM1, a1, e1, c1, c2, c3, c4, c5, c6, c7, c8, c9, c10, c11, c12, c13⟩ := next_ok h1 h2 h5.2.2.1 h5.2.2.2.1 h5.2.2.2.2.1.1
  refine ⟨SX1, SM1, a1, e1, c1, c2, ⟨h1.fr c3, h2.fr c4, ?_, ?_, c6, c7, c8, c9, ⟨c11, by have := h5.2.2.2.2.1.2.1; rcases h5.2.2.2.2.2.1 with q | q <;> omega, by rw [c3.2 _ _ (fun hp => by unfold NX at hp; omega)]; exact h5.2.2.2.2.1.2.2.1, by rw [c4.2 _ _ (fun hp => by unfold NM at hp; omega)]; exact h5.2.2.2.2.1.2.2.2⟩, c12, c13⟩, c3, c4, c5, c10⟩
  · rw [c3.2 _ _ (fun hp => by unfold NX at hp; omega)]; exact h3
  · rw [c4.2 _ _ (fun hp => by unfold NM at hp; omega)]; exact h4
theorem X_num_f {t n : Nat} {bt : Nat → Nat} {f w lo hi : Int32} {S : MS} (h : XF t n bt f w S) : ∃ S1, fX5_number 48 lo hi S = some (lo, S1) ∧ XF t n bt f w S1 ∧ Fr NY S S1 := by
  obtain ⟨S1, a1, a2, a3⟩ := X_fail_f (g := 1) (v := gI S 48 7) h
  refine ⟨S1, ?_, a2, a3⟩
  unfold fX5_number
  rw [h.2.2.2.2.1, if_neg (show ¬ (0 : Int32) = 3 by decide), a1, Option.bind_some]
theorem M_num_f {lo hi : Int32} {S : MS} (h : gI S 0 34 ≠ 0) : fX11_numeral 0 lo hi S = some (lo, S) := by
  unfold fX11_numeral
  rw [if_neg h]
/-- a number between bounds: the least one behind a fault -/
theorem j_num {t n l m : Nat} {bt : Nat → Nat} {SX SM : MS} (h : JJ t n bt SX SM) (hl : l ≤ m) (hm : m ≤ 99999) : ∃ x SX1 SM1, fX5_number 48 (nI l) (nI m) SX = some (nI x, SX1) ∧ fX11_numeral 0 (nI l) (nI m) SM = some (nI x, SM1) ∧ l ≤ x ∧ x ≤ m ∧ JJ t n bt SX1 SM1 ∧ Fr NY SX SX1 ∧ Fr NN SM SM1 ∧ ((∃ a e, JO t n bt a e SX1 SM1) → (∃ a e, JO t n bt a e SX SM) ∧ gI SX1 48 8 = gI SX 48 7 ∧ gI SM 0 32 = 2 ∧ gI SM 0 33 = nI x) := by
  rcases h with ⟨a, e, h⟩ | h
  · have tk := h.2.2.2.2.2.2.2.2.2.2
    have fl : ∀ f : Int32, f ≠ 0 → ∃ SX1 SM1, (fX5_fail 48 f (gI SX 48 7) SX).bind (fun q1 => some (nI l, q1)) = some (nI l, SX1) ∧ (fX11_wrong 0 f SM).bind (fun q4 => fX11_numeral_46 0 (nI l) q4) = some (nI l, SM1) ∧ JJ t n bt SX1 SM1 ∧ Fr NY SX SX1 ∧ Fr NN SM SM1 ∧ ((∃ a e, JO t n bt a e SX1 SM1) → (∃ a e, JO t n bt a e SX SM) ∧ gI SX1 48 8 = gI SX 48 7 ∧ gI SM 0 32 = 2 ∧ gI SM 0 33 = nI l) := fun f hf => by
      obtain ⟨SX1, SM1, a1, a2, a3, a4, a5⟩ := j_fail h hf
      refine ⟨SX1, SM1, by rw [a1, Option.bind_some], ?_, Or.inr a3, a4, a5, fun ⟨_, _, g⟩ => (a3.no g).elim⟩
      obtain ⟨ff, ww, c1, c2, c3, c4⟩ := a3
      rw [a2, Option.bind_some]
      unfold fX11_numeral_46
      rw [if_neg (by rw [c3]; exact c1.2.2.1)]
    unfold fX5_number fX5_number_34 fX11_numeral fX11_numeral_41
    rw [if_pos h.2.2.2.1]
    by_cases c : gI SX 48 5 = 3
    · have c2 := tk.num.mp c
      rw [if_pos c, if_pos c2]
      obtain ⟨x, y, ex, ey, r⟩ : ∃ x y, gI SX 48 6 = nI x ∧ gI SM 0 33 = nI y ∧ nrR x y := by
        rcases tk with ⟨q, _⟩ | ⟨q, _⟩ | ⟨q, _⟩ | ⟨_, _, x, y, q1, q2, q3⟩ | ⟨q, _⟩ | ⟨q, _⟩
        · rw [c] at q; exact absurd q (by decide)
        · rw [c] at q; exact absurd q (by decide)
        · rw [c] at q; exact absurd q (by decide)
        · exact ⟨x, y, q1, q2, q3⟩
        · rw [c2] at q; exact absurd q (by decide)
        · rw [c2] at q; exact absurd q (by decide)
      rw [ex, ey]
      by_cases g : y ≤ 99999
      · have exy : x = y := by rcases r with q | q <;> omega
        subst exy
        by_cases d1 : x < l
        · obtain ⟨SX1, SM1, u1, u2, u3⟩ := fl 2 (by decide)
          have d1' := (nI_ltI (show x < 2 ^ 31 by omega) (show l < 2 ^ 31 by omega)).mpr d1
          rw [if_pos d1', if_pos d1']
          exact ⟨l, SX1, SM1, u1, u2, Nat.le_refl _, hl, by rw [ey] at u3; exact ⟨u3.1, u3.2.1, u3.2.2.1, u3.2.2.2⟩⟩
        · have d1' : ¬ nI x < nI l := fun q => d1 ((nI_ltI (by omega) (by omega)).mp q)
          rw [if_neg d1', if_neg d1']
          by_cases d2 : x ≤ m
          · have d2' := (nI_leI (show x < 2 ^ 31 by omega) (show m < 2 ^ 31 by omega)).mpr d2
            rw [if_pos d2', if_pos d2']
            obtain ⟨SX1, SM1, a1, e1, u1, u2, u3, u4, u5, u6, _⟩ := j_next h
            unfold fX11_numeral_46
            rw [u1, u2, Option.bind_some, if_pos h.2.2.2.1, Option.bind_some, ey]
            exact ⟨x, SX1, SM1, rfl, rfl, by omega, d2, Or.inl ⟨a1, e1, u3⟩, u4.mo NX_NY, u5.mo NM_NN, fun _ => ⟨⟨a, e, h⟩, u6, c2, rfl⟩⟩
          · have d2' : ¬ nI x ≤ nI m := fun q => d2 ((nI_leI (by omega) (by omega)).mp q)
            rw [if_neg d2', if_neg d2']
            obtain ⟨SX1, SM1, u1, u2, u3⟩ := fl 2 (by decide)
            exact ⟨l, SX1, SM1, u1, u2, Nat.le_refl _, hl, by rw [ey] at u3; exact ⟨u3.1, u3.2.1, u3.2.2.1, u3.2.2.2⟩⟩
      · obtain ⟨g1, g2, g3, g4⟩ : 99999 < x ∧ 99999 < y ∧ x ≤ 1000000 ∧ y ≤ 999999 := by rcases r with q | q <;> omega
        obtain ⟨SX1, SM1, u1, u2, u3⟩ := fl 2 (by decide)
        rw [if_neg (fun q => absurd ((nI_ltI (by omega) (by omega)).mp q) (by omega)), if_neg (fun q => absurd ((nI_leI (by omega) (by omega)).mp q) (by omega)), if_neg (fun q => absurd ((nI_ltI (by omega) (by omega)).mp q) (by omega)), if_neg (fun q => absurd ((nI_leI (by omega) (by omega)).mp q) (by omega))]
        exact ⟨l, SX1, SM1, u1, u2, Nat.le_refl _, hl, by rw [ey] at u3; exact ⟨u3.1, u3.2.1, u3.2.2.1, u3.2.2.2⟩⟩
    · rw [if_neg c, if_neg (fun q => c (tk.num.mpr q))]
      obtain ⟨SX1, SM1, u1, u2, u3⟩ := fl 1 (by decide)
      exact ⟨l, SX1, SM1, u1, u2, Nat.le_refl _, hl, u3⟩
  · obtain ⟨f, w, h1, h2, h3, h4⟩ := h
    obtain ⟨SX1, a1, a2, a3⟩ := X_num_f (lo := nI l) (hi := nI m) h1
    have hz : gI SM 0 34 ≠ 0 := by rw [h3]; exact h1.2.2.1
    exact ⟨l, SX1, SM, a1, M_num_f hz, Nat.le_refl _, hl, Or.inr ⟨f, w, a2, h2, h3, h4⟩, a3, Fr.rf, fun ⟨_, _, g⟩ => (hz g.2.2.2.1).elim⟩
