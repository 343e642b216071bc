/-! ===== the lines of the room, of her, of the cloud and of the seed ===== -/
def CFX (u lo hi o j : Nat) : Prop := NY o j ∨ (o = u ∧ lo ≤ j ∧ j ≤ hi) ∨ (o = 48 ∧ 13 ≤ j ∧ j ≤ 15)
def CFR (u o j : Nat) : Prop := NY o j ∨ (o = u ∧ 8 ≤ j ∧ j ≤ 9)
def CFM (lo hi o j : Nat) : Prop := NN o j ∨ (o = 2 ∧ lo ≤ j ∧ j ≤ hi)
def roomX (S : MS) : Option MS := (fX5_number 48 (1 : Int32) (8 : Int32) S).bind fun q4 => (fX5_number 48 (1 : Int32) (8 : Int32) (pI q4.2 (gR S 48 9) 8 q4.1)).bind fun q7 => some (pI q7.2 (gR (pI q4.2 (gR S 48 9) 8 q4.1) 48 9) 9 q7.1)
theorem L_room {t n u a e : Nat} {bt : Nat → Nat} {SX SM : MS} (hu : isT u) (h : JO t n bt a e SX SM) (h9 : gR SX 48 9 = u) :
    ∃ SX1 SM1 r c, roomX SX = some SX1 ∧ roomM SM = fX11_line_596 0 SM1 ∧ JJ t n bt SX1 SM1 ∧ Fr (CFR u) SX SX1 ∧ Fr (CFM 13 14) SM SM1 ∧ RC u r c SX1 SM1 := by
  have hu' := hu
  unfold isT at hu'
  obtain ⟨x, A1, B1, p1, w1, x1, x8, j1, fx1, fm1, _⟩ := j_num (l := 1) (m := 8) (Or.inl ⟨a, e, h⟩) (by decide) (by decide)
  have p1' : fX5_number 48 (1 : Int32) (8 : Int32) SX = some (nI x, A1) := p1
  have w1' : fX11_numeral 0 (1 : Int32) (8 : Int32) SM = some (nI x, B1) := w1
  have j1' : JJ t n bt (pI A1 u 8 (nI x)) (pI B1 2 13 (nI x)) := (j1.pX hu (PDu (by decide)) (fun e => by omega)).pM (by decide) (fun e => by omega)
  obtain ⟨y, A2, B2, p2, w2, y1, y8, j2, fx2, fm2, _⟩ := j_num (l := 1) (m := 8) j1' (by decide) (by decide)
  have p2' : fX5_number 48 (1 : Int32) (8 : Int32) (pI A1 u 8 (nI x)) = some (nI y, A2) := p2
  have w2' : fX11_numeral 0 (1 : Int32) (8 : Int32) (pI B1 2 13 (nI x)) = some (nI y, B2) := w2
  have r1 : fX11_reads 0 (0 : Int32) (nI x) B1 = some (pI B1 2 13 (nI x)) := M_rea j1.mlM.1 (j := 0) (by decide)
  have r2 : fX11_reads 0 (1 : Int32) (nI y) B2 = some (pI B2 2 14 (nI y)) := M_rea j2.mlM.1 (j := 1) (by decide)
  have g9 : gR (pI A1 u 8 (nI x)) 48 9 = u := by rw [gR_pI, fx1.ref]; exact h9
  unfold roomX roomM
  rw [p1', Option.bind_some, h9, w1', Option.bind_some]
  dsimp only
  rw [p2', Option.bind_some, r1, Option.bind_some, w2', Option.bind_some]
  dsimp only
  rw [g9, r2, Option.bind_some]
  refine ⟨_, _, x, y, rfl, rfl, (j2.pX hu (PDu (by decide)) (fun e => by omega)).pM (by decide) (fun e => by omega), ?_, ?_, ?_⟩
  · have g1 : Fr (CFR u) SX A1 := fx1.mo (fun _ _ hp => Or.inl hp)
    have g2 : Fr (CFR u) (pI A1 u 8 (nI x)) A2 := fx2.mo (fun _ _ hp => Or.inl hp)
    exact ((g1.pI (Or.inr ⟨rfl, by decide, by decide⟩)).tr g2).pI (Or.inr ⟨rfl, by decide, by decide⟩)
  · have g1 : Fr (CFM 13 14) SM B1 := fm1.mo (fun _ _ hp => Or.inl hp)
    have g2 : Fr (CFM 13 14) (pI B1 2 13 (nI x)) B2 := fm2.mo (fun _ _ hp => Or.inl hp)
    exact ((g1.pI (Or.inr ⟨rfl, by decide, by decide⟩)).tr g2).pI (Or.inr ⟨rfl, by decide, by decide⟩)
  · refine ⟨?_, ?_, ?_, x1, x8, gI_same, gI_same, y1, y8⟩
    · rw [gR_pI, fx2.ref, g9]
    · rw [gI_nek (by decide), fx2.2 _ _ (fun hp => by unfold NY at hp; omega), gI_same]
    · rw [gI_nek (by decide), fm2.2 _ _ (fun hp => by unfold NN at hp; omega), gI_same]
theorem L_her {t n u a e r c : Nat} {bt : Nat → Nat} {SX SM : MS} (hu : isT u) (h : JO t n bt a e SX SM) (hrc : RC u r c SX SM) :
    ∃ SX1 SM1 x y, herX SX = some SX1 ∧ herM SM = fX11_line_596 0 SM1 ∧ JJ t n bt SX1 SM1 ∧ Fr (CFX u 10 11) SX SX1 ∧ Fr (CFM 15 16) SM SM1 ∧ HR u x y SX1 SM1 ∧ gI SX1 48 13 = 1 ∧ gI SX1 48 14 = gI SX 48 14 ∧ gI SX1 48 15 = gI SX 48 15 ∧ x < r ∧ y < c := by
  have hu' := hu
  unfold isT at hu'
  have rr := hrc.2.2.2
  have h' : JO t n bt a e (pI SX 48 13 1) SM := h.pX hu (PD48 (by decide)) (fun _ => by decide)
  have rc0 : RC u r c (pI SX 48 13 1) SM := hrc.fr (P := fun o j => o = 48) (Q := fun _ _ => False) (Fr.rf.pI rfl) Fr.rf (by omega) (by omega) (fun q => q) (fun q => q)
  obtain ⟨x, A1, B1, p1, w1, _, xr, j1, fx1, fm1, _⟩ := j_num (l := 0) (m := r - 1) (Or.inl ⟨a, e, h'⟩) (by omega) (by omega)
  have p1' : fX5_number 48 (0 : Int32) (nI (r - 1)) (pI SX 48 13 1) = some (nI x, A1) := p1
  have w1' : fX11_numeral 0 (0 : Int32) (nI (r - 1)) SM = some (nI x, B1) := w1
  have j1' : JJ t n bt (pI A1 u 10 (nI x)) (pI B1 2 15 (nI x)) := (j1.pX hu (PDu (by decide)) (fun e => by omega)).pM (by decide) (fun e => by omega)
  have rc1 : RC u r c A1 B1 := rc0.fr fx1 fm1 (fun hp => by unfold NY at hp; omega) (fun hp => by unfold NY at hp; omega) (fun hp => by unfold NN at hp; omega) (fun hp => by unfold NN at hp; omega)
  have rc1' : RC u r c (pI A1 u 10 (nI x)) (pI B1 2 15 (nI x)) := rc1.fr (P := fun o j => o = u ∧ j = 10) (Q := fun o j => o = 2 ∧ j = 15) (Fr.rf.pI ⟨rfl, rfl⟩) (Fr.rf.pI ⟨rfl, rfl⟩) (by omega) (by omega) (by omega) (by omega)
  obtain ⟨y, A2, B2, p2, w2, _, yr, j2, fx2, fm2, _⟩ := j_num (l := 0) (m := c - 1) j1' (by omega) (by omega)
  have p2' : fX5_number 48 (0 : Int32) (nI (c - 1)) (pI A1 u 10 (nI x)) = some (nI y, A2) := p2
  have w2' : fX11_numeral 0 (0 : Int32) (nI (c - 1)) (pI B1 2 15 (nI x)) = some (nI y, B2) := w2
  have r1 : fX11_reads 0 (2 : Int32) (nI x) B1 = some (pI B1 2 15 (nI x)) := M_rea j1.mlM.1 (j := 2) (by decide)
  have r2 : fX11_reads 0 (3 : Int32) (nI y) B2 = some (pI B2 2 16 (nI y)) := M_rea j2.mlM.1 (j := 3) (by decide)
  unfold herX herM
  rw [rc0.rx, p1', Option.bind_some, M_row h.2.1.1 hrc.2.2.1 rr.1, w1', Option.bind_some, Option.bind_some]
  dsimp only
  rw [rc0.1, rc1'.cx, p2', Option.bind_some, r1, Option.bind_some, M_col j1'.mlM.1 rc1'.2.2.2.2.2.2.1 rr.2.2.2.2.1, w2', Option.bind_some, Option.bind_some]
  dsimp only
  rw [rc1'.1, r2, Option.bind_some]
  have f48 : ∀ j, 13 ≤ j → j ≤ 15 → gI (pI A2 u 11 (nI y)) 48 j = gI (pI SX 48 13 1) 48 j := fun j q1 q2 => by
    rw [gI_neo (by omega), fx2.2 _ _ (fun hp => by unfold NY at hp; omega), gI_neo (by omega), fx1.2 _ _ (fun hp => by unfold NY at hp; omega)]
  refine ⟨_, _, x, y, rfl, rfl, (j2.pX hu (PDu (by decide)) (fun e => by omega)).pM (by decide) (fun e => by omega), ?_, ?_, ?_, ?_, ?_, ?_, by omega, by omega⟩
  · have g0 : Fr (CFX u 10 11) SX (pI SX 48 13 1) := Fr.rf.pI (Or.inr (Or.inr ⟨rfl, by decide, by decide⟩))
    have g1 : Fr (CFX u 10 11) (pI SX 48 13 1) A1 := fx1.mo (fun _ _ hp => Or.inl hp)
    have g2 : Fr (CFX u 10 11) (pI A1 u 10 (nI x)) A2 := fx2.mo (fun _ _ hp => Or.inl hp)
    exact (((g0.tr g1).pI (Or.inr (Or.inl ⟨rfl, by decide, by decide⟩))).tr g2).pI (Or.inr (Or.inl ⟨rfl, by decide, by decide⟩))
  · have g1 : Fr (CFM 15 16) SM B1 := fm1.mo (fun _ _ hp => Or.inl hp)
    have g2 : Fr (CFM 15 16) (pI B1 2 15 (nI x)) B2 := fm2.mo (fun _ _ hp => Or.inl hp)
    exact ((g1.pI (Or.inr ⟨rfl, by decide, by decide⟩)).tr g2).pI (Or.inr ⟨rfl, by decide, by decide⟩)
  · refine ⟨?_, ?_, by omega, gI_same, gI_same, by omega⟩
    · rw [gI_nek (by decide), fx2.2 _ _ (fun hp => by unfold NY at hp; omega), gI_same]
    · rw [gI_nek (by decide), fm2.2 _ _ (fun hp => by unfold NN at hp; omega), gI_same]
  · rw [f48 13 (by decide) (by decide), gI_same]
  · rw [f48 14 (by decide) (by decide), gI_nek (by decide)]
  · rw [f48 15 (by decide) (by decide), gI_nek (by decide)]
theorem L_one {t n u a e fl cx cm m jm : Nat} {bt : Nat → Nat} {SX SM : MS} (hu : isT u) (h : JO t n bt a e SX SM) (h9 : gR SX 48 9 = u) (hf : fl = 14 ∨ fl = 15) (hm : m ≤ 99999) (hcx : 10 ≤ cx) (hj : jm < 13) (hcm : cm = 13 + jm) :
    ∃ SX1 SM1 x, (fX5_number 48 (0 : Int32) (nI m) (pI SX 48 fl (1 : Int32))).bind (fun q4 => some (pI q4.2 (gR (pI SX 48 fl (1 : Int32)) 48 9) cx q4.1)) = some SX1 ∧ (fX11_numeral 0 (0 : Int32) (nI m) SM).bind (fun q132 => (fX11_reads 0 (nI jm) q132.1 q132.2).bind fun q134 => fX11_line_596 0 q134) = fX11_line_596 0 SM1 ∧ JJ t n bt SX1 SM1 ∧ Fr (CFX u cx cx) SX SX1 ∧ Fr (CFM cm cm) SM SM1 ∧ gI SX1 u cx = nI x ∧ gI SM1 2 cm = nI x ∧ x ≤ m ∧ gI SX1 48 fl = 1 ∧ ∀ j, 13 ≤ j → j ≤ 15 → j ≠ fl → gI SX1 48 j = gI SX 48 j := by
  have hu' := hu
  unfold isT at hu'
  have h' : JO t n bt a e (pI SX 48 fl 1) SM := h.pX hu (PD48 (by omega)) (fun _ => by omega)
  obtain ⟨x, A1, B1, p1, w1, _, xr, j1, fx1, fm1, _⟩ := j_num (l := 0) (m := m) (Or.inl ⟨a, e, h'⟩) (by omega) hm
  have p1' : fX5_number 48 (0 : Int32) (nI m) (pI SX 48 fl 1) = some (nI x, A1) := p1
  have w1' : fX11_numeral 0 (0 : Int32) (nI m) SM = some (nI x, B1) := w1
  have r1 : fX11_reads 0 (nI jm) (nI x) B1 = some (pI B1 2 (13 + jm) (nI x)) := M_rea j1.mlM.1 hj
  rw [p1', Option.bind_some, w1', Option.bind_some, gR_pI, h9]
  dsimp only
  rw [r1, Option.bind_some, ← hcm]
  have f48 : ∀ j, 13 ≤ j → j ≤ 15 → gI (pI A1 u cx (nI x)) 48 j = gI (pI SX 48 fl 1) 48 j := fun j q1 q2 => by
    rw [gI_neo (by omega), fx1.2 _ _ (fun hp => by unfold NY at hp; omega)]
  refine ⟨_, _, x, rfl, rfl, (j1.pX hu (PDu (by omega)) (fun e => by omega)).pM (by decide) (fun e => by omega), ?_, ?_, gI_same, gI_same, xr, ?_, fun j q1 q2 q3 => ?_⟩
  · have g0 : Fr (CFX u cx cx) SX (pI SX 48 fl 1) := Fr.rf.pI (Or.inr (Or.inr ⟨rfl, by omega, by omega⟩))
    have g1 : Fr (CFX u cx cx) (pI SX 48 fl 1) A1 := fx1.mo (fun _ _ hp => Or.inl hp)
    exact (g0.tr g1).pI (Or.inr (Or.inl ⟨rfl, Nat.le_refl _, Nat.le_refl _⟩))
  · have g1 : Fr (CFM cm cm) SM B1 := fm1.mo (fun _ _ hp => Or.inl hp)
    exact g1.pI (Or.inr ⟨rfl, Nat.le_refl _, Nat.le_refl _⟩)
  · rw [f48 fl (by omega) (by omega), gI_same]
  · rw [f48 j q1 q2, gI_nek q3]
