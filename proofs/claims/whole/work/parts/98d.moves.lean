/-! ===== a law's line: parts, brackets, release ===== -/
section LJ
variable {t n u L b a e kn op : Nat} {bt : Nat → Nat} {W Ox Om : List Int32} {S0 R0 SX SM : MS}
theorem len1 {O : List Int32} {v : Int32} : (O ++ [v]).length = O.length + 1 := by rw [List.length_append]; rfl
/-- both lay a part -/
theorem lj_oper {O : List Int32} {v s w : Int32} (h : LJ t n bt u L b a e W O O kn op S0 R0 SX SM) (hv : enK s w = v) (hok : okK s w) :
    ∃ A1 A2 A3 B1 B2 B3, fX1_add L v SX = some A1 ∧ fX5_countKnot 48 A1 = some A2 ∧ fX5_next 48 A2 = some A3 ∧ fX11_knot 0 SM = some B1 ∧ (gI B1 0 34 = 0 → gI B1 0 33 = gI SM 0 33) ∧ (∀ s' w', (gI B1 0 34 = 0 → s' = s ∧ w' = w) → fX11_puts 0 s' w' B1 = some B2) ∧ fX11_goOn 0 B2 = some B3 ∧ (LF t n bt u L b S0 R0 A3 B3 ∨ ∃ a1 e1, LJ t n bt u L b a1 e1 W (O ++ [v]) (O ++ [v]) (kn + 1) op S0 R0 A3 B3 ∧ e ≤ a1) := by
  have hn := h.num
  have hR := h.jo.1.1
  have bo : b + O.length ≤ kn := by have := h.ct; have := nop_le W; have := h.np; omega
  by_cases c : kn < 64
  · obtain ⟨a1, a2⟩ := X_lay (v := v) hR h.hu h.hL h.xz (by omega)
    rcases lj_knot h with ⟨_, _, m1, lk⟩ | ⟨q, _⟩
    · obtain ⟨j1, j2, j3, j4⟩ := h.pX (W' := W) (Ox' := O) (kn' := kn) (op' := op) (SX1 := pI (pI (pI SX (L + 1) O.length v) L 2 (nI (O.length + 1))) u 15 (nI (kn + 1))) (((Fr.rf.pI (Or.inr (Or.inr (Or.inr (Or.inr rfl))))).pI (Or.inr (Or.inr (Or.inr (Or.inl ⟨rfl, rfl⟩))))).pI (Or.inr (Or.inr (Or.inl ⟨rfl, rfl⟩))))
      have hM1 := lk.jo.2.1.1
      have p1 := M_puts (s := s) (w := w) hM1 lk.jo.2.2.2.1 lk.mz (by omega)
      have cx : ∀ o j, o ≠ L → o ≠ L + 1 → o ≠ u → gI (pI (pI (pI SX (L + 1) O.length v) L 2 (nI (O.length + 1))) u 15 (nI (kn + 1))) o j = gI SX o j := fun o j q1 q2 q3 => by rw [gI_neo q3, gI_neo q1, gI_neo q2]
      have cm : ∀ o j, o ≠ 2 → o ≠ 23 → o ≠ 24 → (o = 0 → j ≠ 39) → gI (pI (pI (pI (pI SM 0 39 (nI (kn + 1))) 23 (64 + (b + O.length)) s) 24 (64 + (b + O.length)) w) 2 25 (nI (b + O.length + 1))) o j = gI SM o j := fun o j q1 q2 q3 q4 => by
        rw [gI_neo q1, gI_neo q3, gI_neo q2]
        by_cases q : o = 0
        · rw [gI_nek (q4 q)]
        · rw [gI_neo q]
      have c23 : ∀ i, i < O.length → gI (pI (pI (pI (pI SM 0 39 (nI (kn + 1))) 23 (64 + (b + O.length)) s) 24 (64 + (b + O.length)) w) 2 25 (nI (b + O.length + 1))) 23 (64 + (b + i)) = gI SM 23 (64 + (b + i)) := fun i hi => by
        rw [gI_neo (by decide), gI_neo (by decide), gI_nek (by omega), gI_neo (by decide)]
      have c24 : ∀ i, i < O.length → gI (pI (pI (pI (pI SM 0 39 (nI (kn + 1))) 23 (64 + (b + O.length)) s) 24 (64 + (b + O.length)) w) 2 25 (nI (b + O.length + 1))) 24 (64 + (b + i)) = gI SM 24 (64 + (b + i)) := fun i hi => by
        rw [gI_neo (by decide), gI_nek (by omega), gI_neo (by decide), gI_neo (by decide)]
      have d23 : gI (pI (pI (pI (pI SM 0 39 (nI (kn + 1))) 23 (64 + (b + O.length)) s) 24 (64 + (b + O.length)) w) 2 25 (nI (b + O.length + 1))) 23 (64 + (b + O.length)) = s := by
        rw [gI_neo (by decide), gI_neo (by decide), gI_same]
      have d24 : gI (pI (pI (pI (pI SM 0 39 (nI (kn + 1))) 23 (64 + (b + O.length)) s) 24 (64 + (b + O.length)) w) 2 25 (nI (b + O.length + 1))) 24 (64 + (b + O.length)) = w := by
        rw [gI_neo (by decide), gI_same]
      have lj : LJ t n bt u L b a e W (O ++ [v]) (O ++ [v]) (kn + 1) op S0 R0 (pI (pI (pI SX (L + 1) O.length v) L 2 (nI (O.length + 1))) u 15 (nI (kn + 1))) (pI (pI (pI (pI SM 0 39 (nI (kn + 1))) 23 (64 + (b + O.length)) s) 24 (64 + (b + O.length)) w) 2 25 (nI (b + O.length + 1))) := by
        refine ⟨(((j1.pM (by decide) (fun _ => by decide)).pM (by decide) (fun e => by omega)).pM (by decide) (fun e => by omega)).pM (by decide) (fun e => by omega), h.hu, h.hL, j2, j3, ⟨?_, h.xw.2.1, stk_fr _ (fun j _ => cx _ _ (by omega) (by omega) (by omega)) h.xw.2.2⟩, ?_, ?_, ?_, ?_, gI_same, ?_, by omega, ?_, ?_, h.p8, h.np, ?_, ?_, j4, ?_⟩
        · rw [cx _ _ (by omega) (by omega) (by omega)]; exact h.xw.1
        · rw [gI_neo (by omega), gI_same, len1]
        · rw [len1]
          refine Eq.trans (map_rc (fun i _ => gI_neo (by omega))) (a2.trans ?_)
          rw [h.xo]
        · rw [gI_same, len1]; rfl
        · rw [len1]
          refine Eq.trans (map_rs (v := v) (g := fun i => enK (gI SM 23 (64 + (b + i))) (gI SM 24 (64 + (b + i)))) (fun i hi => by rw [c23 i hi, c24 i hi]) (by rw [d23, d24]; exact hv)) ?_
          rw [show (List.range O.length).map (fun i => enK (gI SM 23 (64 + (b + i))) (gI SM 24 (64 + (b + i)))) = O from h.mo]
        · rw [gI_neo (by decide), gI_neo (by decide), gI_neo (by decide), gI_same]
        · rw [cx _ _ (by omega) (by omega) (by omega)]; exact h.xp
        · rw [cm _ _ (by decide) (by decide) (by decide) (fun _ => by decide)]; exact h.mp
        · rw [len1]; have := h.ct; omega
        · rw [len1]
          intro i hi
          by_cases q : i = O.length
          · subst q; rw [d23, d24]; exact hok
          · rw [c23 i (by omega), c24 i (by omega)]; exact h.ok i (by omega)
        · exact (((h.fm.pI (Or.inr (Or.inl ⟨rfl, Or.inr rfl⟩))).pI (Or.inr (Or.inr (Or.inr ⟨Or.inl rfl, by omega⟩)))).pI (Or.inr (Or.inr (Or.inr ⟨Or.inr rfl, by omega⟩)))).pI (Or.inr (Or.inr (Or.inl ⟨rfl, rfl⟩)))
      obtain ⟨A3, B3, a1', e1', n1, n2, n3, n4⟩ := lj_next lj
      refine ⟨_, _, A3, _, (pI (pI (pI (pI SM 0 39 (nI (kn + 1))) 23 (64 + (b + O.length)) s) 24 (64 + (b + O.length)) w) 2 25 (nI (b + O.length + 1))), B3, a1, ?_, n1, m1, fun _ => gI_nek (by decide), fun s' w' hs => ?_, ?_, Or.inr ⟨a1', e1', n3, n4⟩⟩
      · unfold fX5_countKnot
        have e9 : gR (pI (pI SX (L + 1) O.length v) L 2 (nI (O.length + 1))) 48 9 = u := h.r9
        have ek : gI (pI (pI SX (L + 1) O.length v) L 2 (nI (O.length + 1))) u 15 = nI kn := by rw [gI_neo (by omega), gI_neo (by omega)]; exact h.xk
        rw [e9, ek, if_pos (show nI kn < 64 from (nI_ltI (show kn < 2 ^ 31 by omega) (show (64 : Nat) < 2 ^ 31 by decide)).mpr c), nI_1]
      · obtain ⟨rfl, rfl⟩ := hs lk.jo.2.2.2.1
        exact p1
      · unfold fX11_goOn
        rw [if_pos lj.jo.2.2.2.1, n2, Option.bind_some]
    · omega
  · have e64 : kn = 64 := by have := h.k64; omega
    have go : ∀ (A : MS) (z : Nat), fX1_add L v SX = some A → Fr (fun o j => (o = 48 ∧ (j = 11 ∨ j = 12)) ∨ o = 50 ∨ (o = u ∧ j = 15) ∨ (o = L ∧ j = 2) ∨ o = L + 1) SX A → gI A u 15 = nI kn → XWt A W → gI A L 2 = nI z → z ≤ 64 → ∃ A1 A2 A3 B1 B2 B3, fX1_add L v SX = some A1 ∧ fX5_countKnot 48 A1 = some A2 ∧ fX5_next 48 A2 = some A3 ∧ fX11_knot 0 SM = some B1 ∧ (gI B1 0 34 = 0 → gI B1 0 33 = gI SM 0 33) ∧ (∀ s' w', (gI B1 0 34 = 0 → s' = s ∧ w' = w) → fX11_puts 0 s' w' B1 = some B2) ∧ fX11_goOn 0 B2 = some B3 ∧ (LF t n bt u L b S0 R0 A3 B3 ∨ ∃ a1 e1, LJ t n bt u L b a1 e1 W (O ++ [v]) (O ++ [v]) (kn + 1) op S0 R0 A3 B3 ∧ e ≤ a1) := fun A z q1 q2 q3 q4 q5 q6 => by
      obtain ⟨A2, A3, B1, c1, c2, c3, c4, c5⟩ := lj_many h e64 q2 q3 q4 q5 q6
      exact ⟨A, A2, A3, B1, B1, B1, q1, c1, c2, c3, fun q => absurd q c4, fun _ _ _ => M_puts_f c4, M_goOn_f c4, Or.inl c5⟩
    by_cases w' : O.length < 64
    · obtain ⟨a1, a2⟩ := X_lay (v := v) hR h.hu h.hL h.xz w'
      refine go _ (O.length + 1) a1 ((Fr.rf.pI (Or.inr (Or.inr (Or.inr (Or.inr rfl))))).pI (Or.inr (Or.inr (Or.inr (Or.inl ⟨rfl, rfl⟩))))) ?_ ⟨?_, h.xw.2.1, stk_fr _ (fun j _ => ?_) h.xw.2.2⟩ gI_same (by omega)
      · rw [gI_neo (by omega), gI_neo (by omega)]; exact h.xk
      · rw [gI_neo (by omega), gI_neo (by omega)]; exact h.xw.1
      · rw [gI_neo (by omega), gI_neo (by omega)]
    · have l64 : O.length = 64 := by have := h.len; omega
      have e : fX1_add L v SX = some SX := by
        unfold fX1_add
        rw [h.xz, l64, if_pos (show (64 : Int32) ≤ nI 64 by decide)]
      exact go SX O.length e Fr.rf h.xk h.xw h.xz h.len
/-- what waits and binds so tightly goes out -/
theorem lj_rel {r : Nat} {D : List Int32} (h : LJ t n bt u L b a e (D ++ W) Ox Om kn op S0 R0 SX SM) (ho : Om = Ox ++ D.map (fun d => -d)) (hr : 1 ≤ r) (hr7 : r ≤ 7) (hD : ∀ d ∈ D, r ≤ rk d) (hW : rk (topK W) < r) :
    ∃ A, fX5_release 48 (nI r) SX = some A ∧ LJ t n bt u L b a e W Om Om kn op S0 R0 A SM := by
  have hn := h.num
  have hD1 : ∀ d ∈ D, 1 ≤ rk d := fun d hd => Nat.le_trans hr (hD d hd)
  have el : (D ++ W).length = D.length + W.length := List.length_append
  have nw : nop W = op := (nop_app D W hD1).symm.trans h.np
  have lo : Om.length = Ox.length + D.length := by rw [ho, List.length_append, List.length_map]
  have hc := h.ct
  rw [el] at hc
  have hl := nop_le W
  have hk := h.k64
  obtain ⟨A, a1, a2, a3, a4, a5⟩ := X_rel h.hu h.hL hW hr7 hD h.jo.1.1 h.r10 h.xw h.xz (by omega)
  obtain ⟨j1, j2, j3, j4⟩ := h.pX (W' := W) (Ox' := Ox) (kn' := kn) (op' := op) (a5.mo (fun o j hp => by unfold RLw at hp; omega))
  have fx : ∀ o j, ¬ RLw L o j → gI A o j = gI SX o j := a5.2
  refine ⟨A, a1, j1, h.hu, h.hL, j2, j3, a2, ?_, ?_, h.mz, h.mo, ?_, h.mk, h.k64, ?_, h.mp, h.p8, nw, by omega, h.ok, j4, h.fm⟩
  · rw [lo]; exact a3
  · rw [lo, a4, h.xo]; exact ho.symm
  · rw [fx _ _ (fun hp => by unfold RLw at hp; omega)]; exact h.xk
  · rw [fx _ _ (fun hp => by unfold RLw at hp; omega)]; exact h.xp
/-- the reference lays a sign that waits on the other side -/
theorem lj_puts {v w : Int32} (h : LJ t n bt u L b a e W Ox Om kn op S0 R0 SX SM) (hv : enK 2 w = v) (hok : okK 2 w) (hc : b + Om.length < 64) :
    ∃ B, fX11_puts 0 2 w SM = some B ∧ LJ t n bt u L b a e W Ox (Om ++ [v]) kn op S0 R0 SX B := by
  have hM := h.jo.2.1.1
  refine ⟨_, M_puts hM h.jo.2.2.2.1 h.mz hc, ?_⟩
  have c23 : ∀ i, i < Om.length → gI (pI (pI (pI SM 23 (64 + (b + Om.length)) 2) 24 (64 + (b + Om.length)) w) 2 25 (nI (b + Om.length + 1))) 23 (64 + (b + i)) = gI SM 23 (64 + (b + i)) := fun i hi => by
    rw [gI_neo (by decide), gI_neo (by decide), gI_nek (by omega)]
  have c24 : ∀ i, i < Om.length → gI (pI (pI (pI SM 23 (64 + (b + Om.length)) 2) 24 (64 + (b + Om.length)) w) 2 25 (nI (b + Om.length + 1))) 24 (64 + (b + i)) = gI SM 24 (64 + (b + i)) := fun i hi => by
    rw [gI_neo (by decide), gI_nek (by omega), gI_neo (by decide)]
  have d23 : gI (pI (pI (pI SM 23 (64 + (b + Om.length)) 2) 24 (64 + (b + Om.length)) w) 2 25 (nI (b + Om.length + 1))) 23 (64 + (b + Om.length)) = 2 := by
    rw [gI_neo (by decide), gI_neo (by decide), gI_same]
  have d24 : gI (pI (pI (pI SM 23 (64 + (b + Om.length)) 2) 24 (64 + (b + Om.length)) w) 2 25 (nI (b + Om.length + 1))) 24 (64 + (b + Om.length)) = w := by
    rw [gI_neo (by decide), gI_same]
  refine ⟨((h.jo.pM (by decide) (fun e => by omega)).pM (by decide) (fun e => by omega)).pM (by decide) (fun e => by omega), h.hu, h.hL, h.r9, h.r10, h.xw, h.xz, h.xo, ?_, ?_, h.xk, ?_, h.k64, h.xp, ?_, h.p8, h.np, h.ct, ?_, h.fx, ?_⟩
  · rw [gI_same, len1]; rfl
  · rw [len1]
    refine Eq.trans (map_rs (v := v) (g := fun i => enK (gI SM 23 (64 + (b + i))) (gI SM 24 (64 + (b + i)))) (fun i hi => by rw [c23 i hi, c24 i hi]) (by rw [d23, d24]; exact hv)) ?_
    rw [show (List.range Om.length).map (fun i => enK (gI SM 23 (64 + (b + i))) (gI SM 24 (64 + (b + i)))) = Om from h.mo]
  · rw [gI_neo (by decide), gI_neo (by decide), gI_neo (by decide)]; exact h.mk
  · rw [gI_neo (by decide), gI_neo (by decide), gI_neo (by decide)]; exact h.mp
  · rw [len1]
    intro i hi
    by_cases q : i = Om.length
    · subst q; rw [d23, d24]; exact hok
    · rw [c23 i (by omega), c24 i (by omega)]; exact h.ok i (by omega)
  · exact ((h.fm.pI (Or.inr (Or.inr (Or.inr ⟨Or.inl rfl, by omega⟩)))).pI (Or.inr (Or.inr (Or.inr ⟨Or.inr rfl, by omega⟩)))).pI (Or.inr (Or.inr (Or.inl ⟨rfl, rfl⟩)))
end LJ
