/-! ===== a law's line: its single moves ===== -/
theorem rel_safe {t u L : Nat} {S0 : MS} (hu : isT u) (hL : isL u L) : ∀ (W : List Int32) (i z fuel : Nat) (S : MS), i ≤ 72 → 72 < fuel + i → RX t S → gR S 48 10 = L → XWt S W → gI S L 2 = nI z → z ≤ 64 → Fr (RLw L) S0 S →
    ∃ S1 W1 z1, fX5_release_2 fuel 48 1 (nI i) S = some S1 ∧ XWt S1 W1 ∧ gI S1 L 2 = nI z1 ∧ z1 ≤ 64 ∧ Fr (RLw L) S0 S1 := by
  have hu' := hu
  have hL' := hL
  unfold isT at hu'
  unfold isL at hL'
  intro W
  induction W with
  | nil =>
    intro i z fuel S hi hf hR h10 hX hz z64 fr
    obtain ⟨f, rfl⟩ : ∃ f, fuel = f + 1 := ⟨fuel - 1, by omega⟩
    refine ⟨S, [], z, ?_, hX, hz, z64, fr⟩
    unfold fX5_release_2
    by_cases c : (72 : Int32) ≤ nI i
    · rw [if_pos c]
    · rw [if_neg c, X_last hR hX, Option.bind_some, X_rank, Option.bind_some]; rfl
  | cons d W ih =>
    intro i z fuel S hi hf hR h10 hX hz z64 fr
    obtain ⟨f, rfl⟩ : ∃ f, fuel = f + 1 := ⟨fuel - 1, by omega⟩
    unfold fX5_release_2
    by_cases c : (72 : Int32) ≤ nI i
    · rw [if_pos c]; exact ⟨S, d :: W, z, rfl, hX, hz, z64, fr⟩
    · have ci : i < 72 := by
        by_cases q : i < 72
        · exact q
        · exact absurd ((nI_leI (show (72 : Nat) < 2 ^ 31 by decide) (by omega)).mpr (by omega)) c
      rw [if_neg c, X_last hR hX, Option.bind_some, X_rank, Option.bind_some]
      show ∃ S1 W1 z1, (if nI (rk d) < 1 then _ else _) = some S1 ∧ _
      by_cases q : nI (rk d) < 1
      · rw [if_pos q]; exact ⟨S, d :: W, z, rfl, hX, hz, z64, fr⟩
      · rw [if_neg q, Option.bind_some, h10]
        show ∃ S1 W1 z1, (fX1_add L (-d) S).bind _ = some S1 ∧ _
        have hw : W.length + 1 ≤ 72 := hX.2.1
        have key : ∀ (A : MS) (z' : Nat), z' ≤ 64 → A.2.1 = S.2.1 → gI A L 2 = nI z' → Fr (RLw L) S0 A → gI A 48 11 = nI (W.length + 1) → (∀ j, gI A 50 j = gI S 50 j) → ∃ S1 W1 z1, fX5_release_2 f 48 1 (nI i + 1) (pI A 48 11 (gI A 48 11 - 1)) = some S1 ∧ XWt S1 W1 ∧ gI S1 L 2 = nI z1 ∧ z1 ≤ 64 ∧ Fr (RLw L) S0 S1 := fun A z' q1 q2 q3 q4 q5 q6 => by
          rw [q5, show nI (W.length + 1) - 1 = nI W.length from nI_subN (a := W.length + 1) (b := 1) (by omega), nI_1]
          refine ih (i + 1) z' f (pI A 48 11 (nI W.length)) (by omega) (by omega) (hR.of q2) ?_ ⟨gI_same, by omega, stk_fr _ (fun j _ => ?_) hX.2.2.2⟩ ?_ q1 (q4.pI (Or.inl ⟨rfl, rfl⟩))
          · rw [gR_pI]; unfold gR; rw [q2]; exact h10
          · rw [gI_neo (by decide)]; exact q6 j
          · rw [gI_neo (by omega)]; exact q3
        by_cases c64 : z < 64
        · obtain ⟨a1, _⟩ := X_lay (v := -d) hR hu hL hz c64
          rw [a1, Option.bind_some]
          refine key _ (z + 1) (by omega) rfl gI_same ((fr.pI (Or.inr (Or.inr rfl))).pI (Or.inr (Or.inl ⟨rfl, rfl⟩))) ?_ (fun j => ?_)
          · rw [gI_neo (by omega), gI_neo (by omega)]; exact hX.1
          · rw [gI_neo (by omega), gI_neo (by omega)]
        · have e : fX1_add L (-d) S = some S := by
            unfold fX1_add
            rw [hz, if_pos (show (64 : Int32) ≤ nI z from (nI_leI (show (64 : Nat) < 2 ^ 31 by decide) (by omega)).mpr (by omega))]
          rw [e, Option.bind_some]
          exact key S z z64 rfl hz fr hX.1 (fun _ => rfl)
/-- how a line ends that has failed -/
def LE (t n : Nat) (bt : Nat → Nat) (u L b : Nat) (S0 R0 SX SM : MS) : Prop := JF t n bt SX SM ∧ Fr (PLw u L) S0 SX ∧ Fr (PMl b) R0 SM ∧ (∃ z, gI SX L 2 = nI z ∧ z ≤ 64)
theorem XF.fr {t n u : Nat} {bt : Nat → Nat} {f w : Int32} {P : Nat → Nat → Prop} {S S1 : MS} (hu : isT u) (h : XF t n bt f w S) (g : Fr P S S1) (hp : ∀ o j, P o j → PD u o j) (h48 : ∀ j, P 48 j → 11 ≤ j ∧ j ≠ 16 ∧ j ≠ 17) : XF t n bt f w S1 := by
  obtain ⟨h1, h2, h3, h4, h5, h6⟩ := h
  have k : ∀ j, (j < 11 ∨ j = 16 ∨ j = 17) → gI S1 48 j = gI S 48 j := fun j hj => g.2 _ _ (fun q => by have := h48 j q; omega)
  exact ⟨h1.fd hu (g.mo hp), (k 16 (by omega)).trans h2, h3, (k 17 (by omega)).trans h4, (k 5 (by omega)).trans h5, (k 4 (by omega)).trans h6⟩
theorem lf_end {t n u L b : Nat} {bt : Nat → Nat} {S0 R0 SX SM : MS} (h : LF t n bt u L b S0 R0 SX SM) : ∃ SXf, fX5_readE_94 48 SX = some SXf ∧ LE t n bt u L b S0 R0 SXf SM := by
  obtain ⟨⟨f, w, x1, m1, m2, m3⟩, hu, hL, r9, r10, ⟨W, hW⟩, ⟨z, hz, z64⟩, fx, fm⟩ := h
  have hu' := hu
  have hL' := hL
  unfold isT at hu'
  unfold isL at hL'
  obtain ⟨A, W1, z1, a1, a2, a3, a4, a5⟩ := rel_safe (S0 := SX) hu hL W 0 z 1000 SX (by decide) (by decide) x1.1.1 r10 hW hz z64 Fr.rf
  have a1' : fX5_release 48 1 SX = some A := a1
  have xA : XF t n bt f w A := x1.fr hu a5 (fun o j hp => by unfold RLw at hp; unfold PD; omega) (fun j hp => by unfold RLw at hp; omega)
  have fA : Fr (PLw u L) S0 A := fx.tr (a5.mo (fun o j hp => by unfold RLw at hp; unfold PLw; omega))
  unfold fX5_readE_94
  rw [a1', Option.bind_some]
  by_cases c : gI A 48 12 ≤ 0
  · rw [if_pos c]; exact ⟨A, rfl, ⟨f, w, xA, m1, m2, m3⟩, fA, fm, z1, a3, a4⟩
  · obtain ⟨B, b1, b2, b3⟩ := X_fail_f (g := 1) (v := gI A 48 7) xA
    rw [if_neg c, b1, Option.bind_some]
    refine ⟨B, rfl, ⟨f, w, b2, m1, m2, m3⟩, fA.tr (b3.mo (fun o j hp => by unfold NY at hp; unfold PLw; omega)), fm, z1, ?_, a4⟩
    rw [b3.2 _ _ (fun hp => by unfold NY at hp; omega)]; exact a3
theorem lf_run {t n u L b fuel : Nat} {bt : Nat → Nat} {S0 R0 SX SM : MS} {d i : Int32} (h : LF t n bt u L b S0 R0 SX SM) : ∃ SXf, fX5_readE_14 (fuel + 1) 48 d i SX = some SXf ∧ LE t n bt u L b S0 R0 SXf SM := by
  obtain ⟨SXf, a1, a2⟩ := lf_end h
  refine ⟨SXf, ?_, a2⟩
  obtain ⟨⟨f, w, x1, _⟩, _⟩ := h
  unfold fX5_readE_14
  by_cases c : (700 : Int32) ≤ i
  · rw [if_pos c]; exact a1
  · rw [if_neg c, if_neg (by rw [x1.2.1]; exact x1.2.2.1)]; exact a1
theorem M_puts {P : Nat} {S : MS} {s w : Int32} (hM : MR S) (h0 : gI S 0 34 = 0) (hP : gI S 2 25 = nI P) (h : P < 64) : fX11_puts 0 s w S = some (pI (pI (pI S 23 (64 + P) s) 24 (64 + P) w) 2 25 (nI (P + 1))) := by
  have hM1 : MR (pI S 23 (64 + P) s) := hM.of rfl
  have hM2 : MR (pI (pI S 23 (64 + P) s) 24 (64 + P) w) := hM.of rfl
  have e1 : fX11_fresher 0 (12 : Int32) S = some (nI P) := (M_fre hM (j := 12) (by decide)).trans (congrArg some hP)
  have e2 : fX11_fresher 0 (12 : Int32) (pI S 23 (64 + P) s) = some (nI P) := (M_fre hM1 (j := 12) (by decide)).trans (congrArg some (by rw [gI_neo (by decide)]; exact hP))
  have e3 : fX11_fresher 0 (12 : Int32) (pI (pI S 23 (64 + P) s) 24 (64 + P) w) = some (nI P) := (M_fre hM2 (j := 12) (by decide)).trans (congrArg some (by rw [gI_neo (by decide), gI_neo (by decide)]; exact hP))
  have e4 : fX11_reads 0 (12 : Int32) (nI P + 1) (pI (pI S 23 (64 + P) s) 24 (64 + P) w) = some (pI (pI (pI S 23 (64 + P) s) 24 (64 + P) w) 2 25 (nI P + 1)) := M_rea hM2 (j := 12) (by decide)
  unfold fX11_puts fX11_puts_38
  rw [if_pos h0, e1, Option.bind_some, mr_24 hM, lm_23, show (64 : Int32) + nI P = nI (64 + P) from nI_add 64 P, bnd_nI (show 64 + P < 128 by omega) (by decide), if_pos rfl, nI_clamp (by omega), e2, Option.bind_some, mr_25 hM1, lm_24, show (64 : Int32) + nI P = nI (64 + P) from nI_add 64 P, bnd_nI (show 64 + P < 128 by omega) (by decide), if_pos rfl, nI_clamp (by omega), e3, Option.bind_some, e4, Option.bind_some, nI_1]
theorem M_puts_f {S : MS} {s w : Int32} (h0 : gI S 0 34 ≠ 0) : fX11_puts 0 s w S = some S := by unfold fX11_puts; rw [if_neg h0]
theorem M_goOn_f {S : MS} (h0 : gI S 0 34 ≠ 0) : fX11_goOn 0 S = some S := by unfold fX11_goOn; rw [if_neg h0]
theorem M_knot_f {S : MS} (h0 : gI S 0 34 ≠ 0) : fX11_knot 0 S = some S := by unfold fX11_knot; rw [if_neg h0]
section LJ
variable {t n u L b a e kn op : Nat} {bt : Nat → Nat} {W Ox Om : List Int32} {S0 R0 SX SM : MS}
theorem LF.next {SX1 SM1 A : MS} (h : LF t n bt u L b S0 R0 SX1 SM1) (hn : fX5_next 48 SX1 = some A) : LF t n bt u L b S0 R0 A SM1 := by
  obtain ⟨⟨f, w, x1, m⟩, hu, hL, r9, r10, ⟨W, hW⟩, ⟨z, hz, z64⟩, fx, fm⟩ := h
  have hu' := hu
  have hL' := hL
  unfold isT at hu'
  unfold isL at hL'
  obtain ⟨B, b1, b2, b3⟩ := X_next_f x1
  have e : B = A := Option.some.inj (b1.symm.trans hn)
  subst e
  refine ⟨⟨f, w, b2, m⟩, hu, hL, by rw [b3.ref]; exact r9, by rw [b3.ref]; exact r10, ⟨W, ?_, hW.2.1, stk_fr _ (fun k _ => b3.2 _ _ (fun hp => by unfold NY at hp; omega)) hW.2.2⟩, ⟨z, ?_, z64⟩, fx.tr (b3.mo (fun o j hp => by unfold NY at hp; unfold PLw; omega)), fm⟩
  · rw [b3.2 _ _ (fun hp => by unfold NY at hp; omega)]; exact hW.1
  · rw [b3.2 _ _ (fun hp => by unfold NY at hp; omega)]; exact hz
/-- one knot too many: the class has changed its own cells, and both fail -/
theorem lj_many {A : MS} {W1 : List Int32} {z : Nat} (h : LJ t n bt u L b a e W Ox Om kn op S0 R0 SX SM) (hk : kn = 64) (f : Fr (fun o j => (o = 48 ∧ (j = 11 ∨ j = 12)) ∨ o = 50 ∨ (o = u ∧ j = 15) ∨ (o = L ∧ j = 2) ∨ o = L + 1) SX A) (hkA : gI A u 15 = nI kn) (hW : XWt A W1) (hz : gI A L 2 = nI z) (z64 : z ≤ 64) :
    ∃ A2 A3 B1, fX5_countKnot 48 A = some A2 ∧ fX5_next 48 A2 = some A3 ∧ fX11_knot 0 SM = some B1 ∧ gI B1 0 34 ≠ 0 ∧ LF t n bt u L b S0 R0 A3 B1 := by
  have hn := h.num
  obtain ⟨jA, r9, r10, fA⟩ := h.pX (W' := W) (Ox' := Ox) (kn' := kn) (op' := op) f
  obtain ⟨A2, B1, c1, c2, c3, c4, c5⟩ := j_fail (f := 2) jA (by decide)
  have z34 : gI B1 0 34 ≠ 0 := by
    obtain ⟨f, w, q1, _, q2, _⟩ := c3
    rw [q2]; exact q1.2.2.1
  have lf : LF t n bt u L b S0 R0 A2 B1 := by
    refine ⟨c3, h.hu, h.hL, by rw [c4.ref]; exact r9, by rw [c4.ref]; exact r10, ⟨W1, ?_, hW.2.1, stk_fr _ (fun k _ => c4.2 _ _ (fun hp => by unfold NY at hp; omega)) hW.2.2⟩, ⟨z, ?_, z64⟩, fA.tr (c4.mo (fun o j hp => by unfold NY at hp; unfold PLw; omega)), h.fm.tr (c5.mo (fun o j hp => Or.inl hp))⟩
    · rw [c4.2 _ _ (fun hp => by unfold NY at hp; omega)]; exact hW.1
    · rw [c4.2 _ _ (fun hp => by unfold NY at hp; omega)]; exact hz
  obtain ⟨ff, w, x1, _⟩ := c3
  obtain ⟨A3, d1, _⟩ := X_next_f x1
  refine ⟨A2, A3, B1, ?_, d1, ?_, z34, lf.next d1⟩
  · unfold fX5_countKnot
    rw [r9, hkA, if_neg (by rw [hk]; decide), c1, Option.bind_some]
  · unfold fX11_knot
    rw [if_pos h.jo.2.2.2.1, h.mk, if_pos (by rw [hk]; rfl), c2, Option.bind_some]
/-- a sign waits -/
theorem lj_hold {k : Int32} (h : LJ t n bt u L b a e W Ox Om kn op S0 R0 SX SM) (hk : 1 ≤ rk k) :
    ∃ A1 A2 A3 B1 B3, fX5_hold 48 k SX = some A1 ∧ fX5_countKnot 48 A1 = some A2 ∧ fX5_next 48 A2 = some A3 ∧ fX11_knot 0 SM = some B1 ∧ fX11_goOn 0 B1 = some B3 ∧ (LF t n bt u L b S0 R0 A3 B3 ∨ ∃ a1 e1, LJ t n bt u L b a1 e1 (k :: W) Ox Om (kn + 1) op S0 R0 A3 B3 ∧ e ≤ a1) := by
  have hn := h.num
  have hR := h.jo.1.1
  by_cases c : kn < 64
  · have hw : W.length < 72 := by have := h.ct; have := h.p8; omega
    obtain ⟨a1, a2⟩ := X_hold (v := k) hR h.xw hw
    rcases lj_knot h with ⟨_, _, m1, _⟩ | ⟨q, _⟩
    · obtain ⟨j1, j2, j3, j4⟩ := h.pX (W' := W) (Ox' := Ox) (kn' := kn) (op' := op) (SX1 := pI (pI (pI SX 50 W.length k) 48 11 (nI (W.length + 1))) u 15 (nI (kn + 1))) (((Fr.rf.pI (Or.inr (Or.inl rfl))).pI (Or.inl ⟨rfl, Or.inl rfl⟩)).pI (Or.inr (Or.inr (Or.inl ⟨rfl, rfl⟩))))
      have cx : ∀ o j, o ≠ 50 → o ≠ 48 → o ≠ u → gI (pI (pI (pI SX 50 W.length k) 48 11 (nI (W.length + 1))) u 15 (nI (kn + 1))) o j = gI SX o j := fun o j q1 q2 q3 => by rw [gI_neo q3, gI_neo q2, gI_neo q1]
      have lj : LJ t n bt u L b a e (k :: W) Ox Om (kn + 1) op S0 R0 (pI (pI (pI SX 50 W.length k) 48 11 (nI (W.length + 1))) u 15 (nI (kn + 1))) (pI SM 0 39 (nI (kn + 1))) := by
        refine ⟨j1.pM (by decide) (fun _ => by decide), h.hu, h.hL, j2, j3, ⟨?_, hw, ?_⟩, ?_, ?_, ?_, ?_, gI_same, gI_same, by omega, ?_, ?_, h.p8, ?_, ?_, ?_, j4, ?_⟩
        · rw [gI_neo (by omega)]; exact a2.1
        · exact stk_fr _ (fun j _ => gI_neo (by omega)) a2.2.2
        · rw [cx _ _ (by omega) (by omega) (by omega)]; exact h.xz
        · exact (map_rc (fun i _ => cx _ _ (by omega) (by omega) (by omega))).trans h.xo
        · rw [gI_neo (by decide)]; exact h.mz
        · refine Eq.trans (map_rc (fun i _ => ?_)) h.mo
          rw [gI_neo (by decide), gI_neo (by decide)]
        · rw [gI_neo (by omega), gI_nek (by decide), gI_neo (by decide)]; exact h.xp
        · rw [gI_nek (by decide)]; exact h.mp
        · have h5 : ¬ k = 5 := fun e => by rw [e] at hk; exact absurd hk (by decide)
          show nop W + (if k = 5 then 1 else 0) = op
          rw [if_neg h5]; exact h.np
        · show W.length + 1 + (b + Ox.length) ≤ kn + 1 + op
          have := h.ct; omega
        · intro i hi
          rw [gI_neo (by decide), gI_neo (by decide)]; exact h.ok i hi
        · exact h.fm.pI (Or.inr (Or.inl ⟨rfl, Or.inr rfl⟩))
      obtain ⟨A3, B3, a1', e1', n1, n2, n3, n4⟩ := lj_next lj
      refine ⟨_, _, A3, _, B3, a1, ?_, n1, m1, ?_, Or.inr ⟨a1', e1', n3, n4⟩⟩
      · unfold fX5_countKnot
        have e9 : gR (pI (pI SX 50 W.length k) 48 11 (nI (W.length + 1))) 48 9 = u := h.r9
        have ek : gI (pI (pI SX 50 W.length k) 48 11 (nI (W.length + 1))) u 15 = nI kn := by rw [gI_neo (by omega), gI_neo (by omega)]; exact h.xk
        rw [e9, ek, if_pos (show nI kn < 64 from (nI_ltI (show kn < 2 ^ 31 by omega) (show (64 : Nat) < 2 ^ 31 by decide)).mpr c), nI_1]
      · unfold fX11_goOn
        rw [if_pos lj.jo.2.2.2.1, n2, Option.bind_some]
    · omega
  · have e64 : kn = 64 := by have := h.k64; omega
    have go : ∀ (A : MS) (W1 : List Int32), fX5_hold 48 k SX = some A → Fr (fun o j => (o = 48 ∧ (j = 11 ∨ j = 12)) ∨ o = 50 ∨ (o = u ∧ j = 15) ∨ (o = L ∧ j = 2) ∨ o = L + 1) SX A → gI A u 15 = nI kn → XWt A W1 → gI A L 2 = nI Ox.length → ∃ A1 A2 A3 B1 B3, fX5_hold 48 k SX = some A1 ∧ fX5_countKnot 48 A1 = some A2 ∧ fX5_next 48 A2 = some A3 ∧ fX11_knot 0 SM = some B1 ∧ fX11_goOn 0 B1 = some B3 ∧ (LF t n bt u L b S0 R0 A3 B3 ∨ ∃ a1 e1, LJ t n bt u L b a1 e1 (k :: W) Ox Om (kn + 1) op S0 R0 A3 B3 ∧ e ≤ a1) := fun A W1 q1 q2 q3 q4 q5 => by
      obtain ⟨A2, A3, B1, c1, c2, c3, c4, c5⟩ := lj_many h e64 q2 q3 q4 q5 h.len
      exact ⟨A, A2, A3, B1, B1, q1, c1, c2, c3, M_goOn_f c4, Or.inl c5⟩
    by_cases w : W.length < 72
    · obtain ⟨a1, a2⟩ := X_hold (v := k) hR h.xw w
      refine go _ _ a1 ((Fr.rf.pI (Or.inr (Or.inl rfl))).pI (Or.inl ⟨rfl, Or.inl rfl⟩)) ?_ a2 ?_
      · rw [gI_neo (by omega), gI_neo (by omega)]; exact h.xk
      · rw [gI_neo (by omega), gI_neo (by omega)]; exact h.xz
    · have w72 : W.length = 72 := by have := h.xw.2.1; omega
      exact go SX W (X_hold_f (t := t) h.xw w72) Fr.rf h.xk h.xw h.xz
end LJ
