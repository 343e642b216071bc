/-! ===== a law's line: both sides in step ===== -/
def PMl (b o j : Nat) : Prop := NN o j ∨ (o = 0 ∧ (j = 38 ∨ j = 39)) ∨ (o = 2 ∧ j = 25) ∨ ((o = 23 ∨ o = 24) ∧ 64 + b ≤ j)
def nop : List Int32 → Nat
  | [] => 0
  | w :: W => nop W + (if w = 5 then 1 else 0)
theorem nop_le : ∀ W : List Int32, nop W ≤ W.length
  | [] => Nat.le_refl _
  | w :: W => by
    have := nop_le W
    show nop W + (if w = 5 then 1 else 0) ≤ W.length + 1
    split <;> omega
theorem nop_app : ∀ D W : List Int32, (∀ d ∈ D, 1 ≤ rk d) → nop (D ++ W) = nop W
  | [], W, _ => rfl
  | d :: D, W, h => by
    have h1 : 1 ≤ rk d := h d (List.mem_cons_self ..)
    have h5 : ¬ d = 5 := fun e => by rw [e] at h1; exact absurd h1 (by decide)
    show nop (D ++ W) + (if d = 5 then 1 else 0) = nop W
    rw [if_neg h5, nop_app D W (fun x hx => h x (List.mem_cons_of_mem _ hx))]
    rfl
def LJ (t n : Nat) (bt : Nat → Nat) (u L b a e : Nat) (W Ox Om : List Int32) (kn op : Nat) (S0 R0 SX SM : MS) : Prop := (JO t n bt a e SX SM) ∧ (isT u) ∧ (isL u L) ∧ (gR SX 48 9 = u) ∧ (gR SX 48 10 = L) ∧ (XWt SX W) ∧ (gI SX L 2 = nI Ox.length) ∧ (ouX SX L Ox.length = Ox) ∧ (gI SM 2 25 = nI (b + Om.length)) ∧ (ouM SM b Om.length = Om) ∧ (gI SX u 15 = nI kn) ∧ (gI SM 0 39 = nI kn) ∧ (kn ≤ 64) ∧ (gI SX 48 12 = nI op) ∧ (gI SM 0 38 = nI op) ∧ (op ≤ 8) ∧ (nop W = op) ∧ (W.length + (b + Ox.length) ≤ kn + op) ∧ (∀ i, i < Om.length → okK (gI SM 23 (64 + (b + i))) (gI SM 24 (64 + (b + i)))) ∧ (Fr (PLw u L) S0 SX) ∧ (Fr (PMl b) R0 SM)
section LJ
variable {t n u L b a e kn op : Nat} {bt : Nat → Nat} {W Ox Om : List Int32} {S0 R0 SX SM : MS}
theorem LJ.jo (h : LJ t n bt u L b a e W Ox Om kn op S0 R0 SX SM) : JO t n bt a e SX SM := h.1
theorem LJ.hu (h : LJ t n bt u L b a e W Ox Om kn op S0 R0 SX SM) : isT u := h.2.1
theorem LJ.hL (h : LJ t n bt u L b a e W Ox Om kn op S0 R0 SX SM) : isL u L := h.2.2.1
theorem LJ.r9 (h : LJ t n bt u L b a e W Ox Om kn op S0 R0 SX SM) : gR SX 48 9 = u := h.2.2.2.1
theorem LJ.r10 (h : LJ t n bt u L b a e W Ox Om kn op S0 R0 SX SM) : gR SX 48 10 = L := h.2.2.2.2.1
theorem LJ.xw (h : LJ t n bt u L b a e W Ox Om kn op S0 R0 SX SM) : XWt SX W := h.2.2.2.2.2.1
theorem LJ.xz (h : LJ t n bt u L b a e W Ox Om kn op S0 R0 SX SM) : gI SX L 2 = nI Ox.length := h.2.2.2.2.2.2.1
theorem LJ.xo (h : LJ t n bt u L b a e W Ox Om kn op S0 R0 SX SM) : ouX SX L Ox.length = Ox := h.2.2.2.2.2.2.2.1
theorem LJ.mz (h : LJ t n bt u L b a e W Ox Om kn op S0 R0 SX SM) : gI SM 2 25 = nI (b + Om.length) := h.2.2.2.2.2.2.2.2.1
theorem LJ.mo (h : LJ t n bt u L b a e W Ox Om kn op S0 R0 SX SM) : ouM SM b Om.length = Om := h.2.2.2.2.2.2.2.2.2.1
theorem LJ.xk (h : LJ t n bt u L b a e W Ox Om kn op S0 R0 SX SM) : gI SX u 15 = nI kn := h.2.2.2.2.2.2.2.2.2.2.1
theorem LJ.mk (h : LJ t n bt u L b a e W Ox Om kn op S0 R0 SX SM) : gI SM 0 39 = nI kn := h.2.2.2.2.2.2.2.2.2.2.2.1
theorem LJ.k64 (h : LJ t n bt u L b a e W Ox Om kn op S0 R0 SX SM) : kn ≤ 64 := h.2.2.2.2.2.2.2.2.2.2.2.2.1
theorem LJ.xp (h : LJ t n bt u L b a e W Ox Om kn op S0 R0 SX SM) : gI SX 48 12 = nI op := h.2.2.2.2.2.2.2.2.2.2.2.2.2.1
theorem LJ.mp (h : LJ t n bt u L b a e W Ox Om kn op S0 R0 SX SM) : gI SM 0 38 = nI op := h.2.2.2.2.2.2.2.2.2.2.2.2.2.2.1
theorem LJ.p8 (h : LJ t n bt u L b a e W Ox Om kn op S0 R0 SX SM) : op ≤ 8 := h.2.2.2.2.2.2.2.2.2.2.2.2.2.2.2.1
theorem LJ.np (h : LJ t n bt u L b a e W Ox Om kn op S0 R0 SX SM) : nop W = op := h.2.2.2.2.2.2.2.2.2.2.2.2.2.2.2.2.1
theorem LJ.ct (h : LJ t n bt u L b a e W Ox Om kn op S0 R0 SX SM) : W.length + (b + Ox.length) ≤ kn + op := h.2.2.2.2.2.2.2.2.2.2.2.2.2.2.2.2.2.1
theorem LJ.ok (h : LJ t n bt u L b a e W Ox Om kn op S0 R0 SX SM) : ∀ i, i < Om.length → okK (gI SM 23 (64 + (b + i))) (gI SM 24 (64 + (b + i))) := h.2.2.2.2.2.2.2.2.2.2.2.2.2.2.2.2.2.2.1
theorem LJ.fx (h : LJ t n bt u L b a e W Ox Om kn op S0 R0 SX SM) : Fr (PLw u L) S0 SX := h.2.2.2.2.2.2.2.2.2.2.2.2.2.2.2.2.2.2.2.1
theorem LJ.fm (h : LJ t n bt u L b a e W Ox Om kn op S0 R0 SX SM) : Fr (PMl b) R0 SM := h.2.2.2.2.2.2.2.2.2.2.2.2.2.2.2.2.2.2.2.2
theorem LJ.num (h : LJ t n bt u L b a e W Ox Om kn op S0 R0 SX SM) : (u = 2 ∨ u = 25) ∧ (L = u + 14 ∨ L = u + 17 ∨ L = u + 20) := ⟨h.hu, h.hL⟩
/-- one mode with other cells as they were -/
theorem LJ.fr {a1 e1 : Nat} {SX1 SM1 : MS} (h : LJ t n bt u L b a e W Ox Om kn op S0 R0 SX SM) (j : JO t n bt a1 e1 SX1 SM1) (f : Fr NX SX SX1) (g : Fr NM SM SM1) : LJ t n bt u L b a1 e1 W Ox Om kn op S0 R0 SX1 SM1 := by
  have hn := h.num
  have fx : ∀ o k, ¬ NX o k → gI SX1 o k = gI SX o k := f.2
  have gm : ∀ o k, ¬ NM o k → gI SM1 o k = gI SM o k := g.2
  refine ⟨j, h.hu, h.hL, by rw [f.ref]; exact h.r9, by rw [f.ref]; exact h.r10, ⟨?_, h.xw.2.1, stk_fr _ (fun k _ => fx _ _ (fun hp => by unfold NX at hp; omega)) h.xw.2.2⟩, ?_, ?_, ?_, ?_, ?_, ?_, h.k64, ?_, ?_, h.p8, h.np, h.ct, ?_, ?_, ?_⟩
  · rw [fx _ _ (fun hp => by unfold NX at hp; omega)]; exact h.xw.1
  · rw [fx _ _ (fun hp => by unfold NX at hp; omega)]; exact h.xz
  · exact (map_rc (fun i _ => fx _ _ (fun hp => by unfold NX at hp; omega))).trans h.xo
  · rw [gm _ _ (fun hp => by unfold NM at hp; omega)]; exact h.mz
  · refine Eq.trans (map_rc (fun i _ => ?_)) h.mo
    rw [gm _ _ (fun hp => by unfold NM at hp; omega), gm _ _ (fun hp => by unfold NM at hp; omega)]
  · rw [fx _ _ (fun hp => by unfold NX at hp; omega)]; exact h.xk
  · rw [gm _ _ (fun hp => by unfold NM at hp; omega)]; exact h.mk
  · rw [fx _ _ (fun hp => by unfold NX at hp; omega)]; exact h.xp
  · rw [gm _ _ (fun hp => by unfold NM at hp; omega)]; exact h.mp
  · intro i hi
    rw [gm _ _ (fun hp => by unfold NM at hp; omega), gm _ _ (fun hp => by unfold NM at hp; omega)]; exact h.ok i hi
  · exact h.fx.tr (f.mo (fun o k hp => Or.inl ⟨hp.1, Or.inl hp.2⟩))
  · exact h.fm.tr (g.mo (fun o k hp => Or.inl (NM_NN o k hp)))
theorem lj_next (h : LJ t n bt u L b a e W Ox Om kn op S0 R0 SX SM) : ∃ SX1 SM1 a1 e1, fX5_next 48 SX = some SX1 ∧ fX11_token 0 SM = some SM1 ∧ LJ t n bt u L b a1 e1 W Ox Om kn op S0 R0 SX1 SM1 ∧ e ≤ a1 := by
  obtain ⟨SX1, SM1, a1, e1, c1, c2, c3, c4, c5, c6, c7⟩ := j_next h.jo
  exact ⟨SX1, SM1, a1, e1, c1, c2, h.fr c3 c4 c5, c7⟩
/-- behind a fault, within a law's line -/
def LF (t n : Nat) (bt : Nat → Nat) (u L b : Nat) (S0 R0 SX SM : MS) : Prop := JF t n bt SX SM ∧ isT u ∧ isL u L ∧ gR SX 48 9 = u ∧ gR SX 48 10 = L ∧ (∃ W, XWt SX W) ∧ (∃ z, gI SX L 2 = nI z ∧ z ≤ 64) ∧ Fr (PLw u L) S0 SX ∧ Fr (PMl b) R0 SM
theorem LF.of {SX1 SM1 : MS} {z : Nat} (h : LJ t n bt u L b a e W Ox Om kn op S0 R0 SX SM) (hz : gI SX L 2 = nI z) (z64 : z ≤ 64) (j : JF t n bt SX1 SM1) (f : Fr NY SX SX1) (g : Fr NN SM SM1) : LF t n bt u L b S0 R0 SX1 SM1 := by
  have hn := h.num
  refine ⟨j, h.hu, h.hL, by rw [f.ref]; exact h.r9, by rw [f.ref]; exact h.r10, ⟨W, ?_, h.xw.2.1, stk_fr _ (fun k _ => f.2 _ _ (fun hp => by unfold NY at hp; omega)) h.xw.2.2⟩, ⟨z, ?_, z64⟩, h.fx.tr (f.mo (fun o k hp => Or.inl ⟨hp.1, by have := hp.2; omega⟩)), h.fm.tr (g.mo (fun o k hp => Or.inl hp))⟩
  · rw [f.2 _ _ (fun hp => by unfold NY at hp; omega)]; exact h.xw.1
  · rw [f.2 _ _ (fun hp => by unfold NY at hp; omega)]; exact hz
theorem LJ.len (h : LJ t n bt u L b a e W Ox Om kn op S0 R0 SX SM) : Ox.length ≤ 64 := by
  have := h.ct; have := nop_le W; have := h.np; have := h.k64; omega
/-- both fail where they stand -/
theorem lj_fail {f : Int32} (h : LJ t n bt u L b a e W Ox Om kn op S0 R0 SX SM) (hf : f ≠ 0) : ∃ SX1 SM1, fX5_fail 48 f (gI SX 48 7) SX = some SX1 ∧ fX11_wrong 0 f SM = some SM1 ∧ LF t n bt u L b S0 R0 SX1 SM1 ∧ gI SM1 0 34 ≠ 0 := by
  obtain ⟨SX1, SM1, a1, a2, a3, a4, a5⟩ := j_fail h.jo hf
  refine ⟨SX1, SM1, a1, a2, LF.of h h.xz h.len a3 a4 a5, ?_⟩
  obtain ⟨f, w, q1, _, q2, _⟩ := a3
  rw [q2]; exact q1.2.2.1
/-- the class's state moves within its line's cells -/
theorem LJ.pX {W' Ox' : List Int32} {kn' op' : Nat} {SX1 : MS} (h : LJ t n bt u L b a e W Ox Om kn op S0 R0 SX SM) (f : Fr (fun o j => (o = 48 ∧ (j = 11 ∨ j = 12)) ∨ o = 50 ∨ (o = u ∧ j = 15) ∨ (o = L ∧ j = 2) ∨ o = L + 1) SX SX1) : JO t n bt a e SX1 SM ∧ gR SX1 48 9 = u ∧ gR SX1 48 10 = L ∧ Fr (PLw u L) S0 SX1 := by
  have hn := h.num
  have g : ∀ k, (k < 11 ∨ 12 < k) → gI SX1 48 k = gI SX 48 k := fun k hk => f.2 _ _ (fun hp => by omega)
  have fd : Fr (PD u) SX SX1 := f.mo (fun o j hp => by unfold PD; omega)
  obtain ⟨j1, j2, j3, j4, j5⟩ := h.jo
  refine ⟨⟨j1.fd h.hu fd, j2, (g 16 (by omega)).trans j3, j4, ?_⟩, by rw [f.ref]; exact h.r9, by rw [f.ref]; exact h.r10, h.fx.tr (f.mo (fun o j hp => by unfold PLw; omega))⟩
  unfold LSy at *
  rw [g 7 (by omega), g 4 (by omega), g 5 (by omega), g 6 (by omega), g 17 (by omega)]
  exact j5
/-- a knot is counted, or is one too many -/
theorem lj_knot (h : LJ t n bt u L b a e W Ox Om kn op S0 R0 SX SM) : (kn < 64 ∧ fX5_countKnot 48 SX = some (pI SX u 15 (nI (kn + 1))) ∧ fX11_knot 0 SM = some (pI SM 0 39 (nI (kn + 1))) ∧ LJ t n bt u L b a e W Ox Om (kn + 1) op S0 R0 (pI SX u 15 (nI (kn + 1))) (pI SM 0 39 (nI (kn + 1)))) ∨ (kn = 64 ∧ fX5_countKnot 48 SX = ((fX5_fail 48 2 (gI SX 48 7) SX).bind fun q4 => some q4) ∧ fX11_knot 0 SM = ((fX11_wrong 0 2 SM).bind fun q3 => some q3)) := by
  have hn := h.num
  unfold fX5_countKnot fX11_knot
  rw [h.r9, h.xk, if_pos h.jo.2.2.2.1, h.mk]
  by_cases c : kn < 64
  · left
    refine ⟨c, ?_, ?_, ?_⟩
    · rw [if_pos (show nI kn < 64 from (nI_ltI (show kn < 2 ^ 31 by omega) (show (64 : Nat) < 2 ^ 31 by decide)).mpr c), nI_1]
    · rw [if_neg (fun q => by have := (nI_eq (show kn < 2 ^ 31 by omega) (show (64 : Nat) < 2 ^ 31 by decide)).mp q; omega), nI_1]
    · obtain ⟨j1, j2, j3, j4⟩ := h.pX (W' := W) (Ox' := Ox) (kn' := kn) (op' := op) (SX1 := pI SX u 15 (nI (kn + 1))) (Fr.rf.pI (Or.inr (Or.inr (Or.inl ⟨rfl, rfl⟩))))
      refine ⟨j1.pM (by decide) (fun _ => by decide), h.hu, h.hL, j2, j3, ⟨?_, h.xw.2.1, stk_fr _ (fun k _ => gI_neo (by omega)) h.xw.2.2⟩, ?_, ?_, ?_, ?_, gI_same, gI_same, by omega, ?_, ?_, h.p8, h.np, ?_, ?_, j4, ?_⟩
      · rw [gI_neo (by omega)]; exact h.xw.1
      · rw [gI_neo (by omega)]; exact h.xz
      · exact (map_rc (fun i _ => gI_neo (by omega))).trans h.xo
      · rw [gI_neo (by decide)]; exact h.mz
      · refine Eq.trans (map_rc (fun i _ => ?_)) h.mo
        rw [gI_neo (by decide), gI_neo (by decide)]
      · rw [gI_neo (by omega)]; exact h.xp
      · rw [gI_nek (by decide)]; exact h.mp
      · have := h.ct; omega
      · intro i hi
        rw [gI_neo (by decide), gI_neo (by decide)]; exact h.ok i hi
      · exact h.fm.pI (Or.inr (Or.inl ⟨rfl, Or.inr rfl⟩))
  · right
    have e : kn = 64 := by have := h.k64; omega
    refine ⟨e, ?_, ?_⟩
    · rw [if_neg (by rw [e]; decide)]
    · rw [if_pos (by rw [e]; rfl)]
end LJ
