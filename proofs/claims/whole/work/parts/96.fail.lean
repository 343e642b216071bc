/-! ===== behind a fault the class reads on, and nothing comes of it ===== -/
def herX (S : MS) : Option MS := (fX5_number 48 (0 : Int32) ((gI (pI S 48 13 (1 : Int32)) (gR (pI S 48 13 (1 : Int32)) 48 9) 8) - (1 : Int32)) (pI S 48 13 (1 : Int32))).bind fun q5 => (fX5_number 48 (0 : Int32) ((gI (pI q5.2 (gR (pI S 48 13 (1 : Int32)) 48 9) 10 q5.1) (gR (pI q5.2 (gR (pI S 48 13 (1 : Int32)) 48 9) 10 q5.1) 48 9) 9) - (1 : Int32)) (pI q5.2 (gR (pI S 48 13 (1 : Int32)) 48 9) 10 q5.1)).bind fun q9 => some (pI q9.2 (gR (pI q5.2 (gR (pI S 48 13 (1 : Int32)) 48 9) 10 q5.1) 48 9) 11 q9.1)
def wallX (S : MS) : Option MS := (fX5_number 48 (0 : Int32) ((gI S (gR S 48 9) 8) - (1 : Int32)) S).bind fun q9 => (fX5_number 48 (0 : Int32) ((gI q9.2 (gR q9.2 48 9) 9) - (1 : Int32)) q9.2).bind fun q12 => (fX8_isWall (gR q12.2 48 9) q9.1 q12.1 q12.2).bind fun q15 => (if q15 = (0 : Int32) then (if q9.1 = gI q12.2 (gR q12.2 48 9) 10 then (if q12.1 = gI q12.2 (gR q12.2 48 9) 11 then fX5_readWall_85 48 q9.1 q12.1 q12.2 else fX5_readWall_94 48 q9.1 q12.1 q12.2) else fX5_readWall_94 48 q9.1 q12.1 q12.2) else fX5_readWall_85 48 q9.1 q12.1 q12.2)
def sunX (o : Nat) (S : MS) : Option MS := (fX5_number 48 (0 : Int32) (23 : Int32) S).bind fun q19 => (fX7_find o (0 : Int32) q19.1 q19.2).bind fun q21 => (if q21 = (-1 : Int32) then fX5_readSun_43 48 o q19.1 q19.2 else (fX5_fail 48 (3 : Int32) (gI q19.2 48 8) q19.2).bind fun q24 => fX5_readSun_43 48 o q19.1 q24)
def lampX (o : Nat) (S : MS) : Option MS := (fX5_takeName 48 o S).bind fun q7 => (fX5_number 48 (0 : Int32) ((gI q7 (gR q7 48 9) 8) - (1 : Int32)) q7).bind fun q10 => (fX7_put o (1 : Int32) q10.1 q10.2).bind fun q12 => (fX5_number 48 (0 : Int32) ((gI q12 (gR q12 48 9) 9) - (1 : Int32)) q12).bind fun q15 => (fX7_put o (2 : Int32) q15.1 q15.2).bind fun q17 => (fX5_number 48 (1 : Int32) (9 : Int32) q17).bind fun q19 => (fX7_put o (3 : Int32) q19.1 q19.2).bind fun q21 => (fX7_close o q21).bind fun q23 => some q23
def stepX (o : Nat) (S : MS) : Option MS := (fX5_number 48 (0 : Int32) (99 : Int32) S).bind fun q7 => (fX7_put o (0 : Int32) q7.1 q7.2).bind fun q9 => (fX5_number 48 (0 : Int32) (3 : Int32) q9).bind fun q11 => (fX7_put o (1 : Int32) q11.1 q11.2).bind fun q13 => (fX7_close o q13).bind fun q15 => some q15
def doingX (o : Nat) (S : MS) : Option MS := (fX5_takeName 48 o S).bind fun q7 => (fX5_number 48 (0 : Int32) (1 : Int32) q7).bind fun q9 => (fX7_put o (1 : Int32) q9.1 q9.2).bind fun q11 => (fX5_number 48 (0 : Int32) ((gI q11 (gR q11 48 9) 8) - (1 : Int32)) q11).bind fun q14 => (fX7_put o (2 : Int32) q14.1 q14.2).bind fun q16 => (fX5_number 48 (0 : Int32) ((gI q16 (gR q16 48 9) 9) - (1 : Int32)) q16).bind fun q19 => (fX7_put o (3 : Int32) q19.1 q19.2).bind fun q21 => (fX5_number 48 (1 : Int32) (99 : Int32) q21).bind fun q23 => (fX7_put o (4 : Int32) q23.1 q23.2).bind fun q25 => (fX7_close o q25).bind fun q27 => some q27
def manX (o : Nat) (S : MS) : Option MS := (fX5_takeName 48 o S).bind fun q7 => (fX5_number 48 (0 : Int32) ((gI q7 (gR q7 48 9) 8) - (1 : Int32)) q7).bind fun q10 => (fX7_put o (1 : Int32) q10.1 q10.2).bind fun q12 => (fX5_number 48 (0 : Int32) ((gI q12 (gR q12 48 9) 9) - (1 : Int32)) q12).bind fun q15 => (fX7_put o (2 : Int32) q15.1 q15.2).bind fun q17 => (fX7_close o q17).bind fun q19 => some q19
def cloudX (S : MS) : Option MS := (fX5_number 48 (0 : Int32) (100 : Int32) (pI S 48 14 (1 : Int32))).bind fun q4 => some (pI q4.2 (gR (pI S 48 14 (1 : Int32)) 48 9) 13 q4.1)
def seedX (S : MS) : Option MS := (fX5_number 48 (0 : Int32) (99999 : Int32) (pI S 48 15 (1 : Int32))).bind fun q4 => some (pI q4.2 (gR (pI S 48 15 (1 : Int32)) 48 9) 14 q4.1)
def PD (u o j : Nat) : Prop := (o = 48 ∧ 4 ≤ j) ∨ o = 50 ∨ (o = u ∧ 8 ≤ j) ∨ o = u + 1 ∨ (u + 3 ≤ o ∧ o ≤ u + 12 ∧ ((o - u) % 2 = 1 → j = 3)) ∨ (u + 14 ≤ o ∧ o ≤ u + 22)
theorem kPD {u : Nat} (hu : isT u) : ∀ q ∈ kXl, ¬ PD u q.1 q.2.1 := by
  rcases hu with rfl | rfl <;> (unfold PD; decide)
theorem XL.fd {t n u : Nat} {bt : Nat → Nat} {S S1 : MS} (h : XL t n bt S) (hu : isT u) (f : Fr (PD u) S S1) : XL t n bt S1 := by
  obtain ⟨h1, h2, h3, h4, h5, h6⟩ := h
  exact ⟨h1.of f.1, h2.fr f (kPD hu), by rw [f.ref]; exact h3, by rw [f.2 _ _ (fun hp => by unfold PD at hp; unfold isT at hu; omega)]; exact h4, h5, fun i hi => by rw [f.2 _ _ (fun hp => by unfold PD at hp; unfold isT at hu; omega)]; exact h6 i hi⟩
theorem NY_PD {u : Nat} : ∀ o j, NY o j → PD u o j := fun o j h => Or.inl ⟨h.1, by have := h.2; omega⟩
def XD (u : Nat) (S : MS) : Prop := gR S 48 9 = u ∧ (∀ q, q < 5 → ∃ k, gI S (u + 3 + 2 * q) 3 = nI k ∧ k ≤ mxq q) ∧ (∃ r, gI S u 8 = nI r ∧ 1 ≤ r ∧ r ≤ 8) ∧ (∃ c, gI S u 9 = nI c ∧ 1 ≤ c ∧ c ≤ 8)
theorem XD.fr {u : Nat} {P : Nat → Nat → Prop} {S S1 : MS} (h : XD u S) (f : Fr P S S1) (h1 : ∀ q, q < 5 → ¬ P (u + 3 + 2 * q) 3) (h2 : ¬ P u 8) (h3 : ¬ P u 9) : XD u S1 := by
  obtain ⟨a1, a2, a3, a4⟩ := h
  refine ⟨by rw [f.ref]; exact a1, fun q hq => ?_, ?_, ?_⟩
  · rw [f.2 _ _ (h1 q hq)]; exact a2 q hq
  · rw [f.2 _ _ h2]; exact a3
  · rw [f.2 _ _ h3]; exact a4
theorem XD.fy {u : Nat} (hu : isT u) {S S1 : MS} (h : XD u S) (f : Fr NY S S1) : XD u S1 :=
  h.fr f (fun q hq hp => by unfold NY at hp; unfold isT at hu; omega) (fun hp => by unfold NY at hp; unfold isT at hu; omega) (fun hp => by unfold NY at hp; unfold isT at hu; omega)
theorem XD.tbl {t n u q : Nat} {bt : Nat → Nat} {S : MS} (h : XD u S) (hu : isT u) (hX : XL t n bt S) (hq : q < 5) : ∃ k, k ≤ mxq q ∧ TBL S (u + 3 + 2 * q) (mxq q) (wid q) k := by
  obtain ⟨k, e, hk⟩ := h.2.1 q hq
  refine ⟨k, hk, ?_⟩
  have hR := hX.1
  have hK := hX.2.1
  rcases (by omega : q = 0 ∨ q = 1 ∨ q = 2 ∨ q = 3 ∨ q = 4) with rfl | rfl | rfl | rfl | rfl
  · exact ⟨rn_0 hR hu, by rcases hu with rfl | rfl <;> exact kx_at hK (by decide), by rcases hu with rfl | rfl <;> exact kx_at hK (by decide), e, hk, lt_4 hu, by decide, by decide⟩
  · exact ⟨rn_1 hR hu, by rcases hu with rfl | rfl <;> exact kx_at hK (by decide), by rcases hu with rfl | rfl <;> exact kx_at hK (by decide), e, hk, lt_6 hu, by decide, by decide⟩
  · exact ⟨rn_2 hR hu, by rcases hu with rfl | rfl <;> exact kx_at hK (by decide), by rcases hu with rfl | rfl <;> exact kx_at hK (by decide), e, hk, lt_8 hu, by decide, by decide⟩
  · exact ⟨rn_3 hR hu, by rcases hu with rfl | rfl <;> exact kx_at hK (by decide), by rcases hu with rfl | rfl <;> exact kx_at hK (by decide), e, hk, lt_10 hu, by decide, by decide⟩
  · exact ⟨rn_4 hR hu, by rcases hu with rfl | rfl <;> exact kx_at hK (by decide), by rcases hu with rfl | rfl <;> exact kx_at hK (by decide), e, hk, lt_12 hu, by decide, by decide⟩
def GX (t n : Nat) (bt : Nat → Nat) (f w : Int32) (u : Nat) (S0 S : MS) : Prop := isT u ∧ XF t n bt f w S ∧ XD u S ∧ Fr (PD u) S0 S
section GX
variable {t n u : Nat} {bt : Nat → Nat} {f w : Int32} {S0 S : MS}
theorem GX.fy {S1 : MS} (h : GX t n bt f w u S0 S) (g : Fr NY S S1) (x : XF t n bt f w S1) : GX t n bt f w u S0 S1 := ⟨h.1, x, h.2.2.1.fy h.1 g, h.2.2.2.tr (g.mo NY_PD)⟩
theorem G_fail {g v : Int32} (h : GX t n bt f w u S0 S) : ∃ S1, fX5_fail 48 g v S = some S1 ∧ GX t n bt f w u S0 S1 := by
  obtain ⟨S1, a1, a2, a3⟩ := X_fail_f (g := g) (v := v) h.2.1
  exact ⟨S1, a1, h.fy a3 a2⟩
theorem G_next (h : GX t n bt f w u S0 S) : ∃ S1, fX5_next 48 S = some S1 ∧ GX t n bt f w u S0 S1 := by
  obtain ⟨S1, a1, a2, a3⟩ := X_next_f h.2.1
  exact ⟨S1, a1, h.fy a3 a2⟩
theorem G_num {lo hi : Int32} (h : GX t n bt f w u S0 S) : ∃ S1, fX5_number 48 lo hi S = some (lo, S1) ∧ GX t n bt f w u S0 S1 := by
  obtain ⟨S1, a1, a2, a3⟩ := X_num_f (lo := lo) (hi := hi) h.2.1
  exact ⟨S1, a1, h.fy a3 a2⟩
theorem G_once {b : Int32} (h : GX t n bt f w u S0 S) : ∃ S1, fX5_once 48 b S = some S1 ∧ GX t n bt f w u S0 S1 := by
  unfold fX5_once fX5_once_13
  by_cases c : b = 0
  · obtain ⟨S1, a1, a2⟩ := G_next h
    rw [if_pos c, a1, Option.bind_some]; exact ⟨S1, rfl, a2⟩
  · obtain ⟨S1, a1, a2⟩ := G_fail (g := 3) (v := gI S 48 7) h
    obtain ⟨S2, b1, b2⟩ := G_next a2
    rw [if_neg c, a1, Option.bind_some, b1, Option.bind_some]; exact ⟨S2, rfl, b2⟩
theorem G_word {b : Int32} (h : GX t n bt f w u S0 S) : ∃ S1, fX5_takeWord 48 b S = some S1 ∧ GX t n bt f w u S0 S1 := by
  unfold fX5_takeWord fX5_takeWord_13
  by_cases c : b = 0
  · obtain ⟨S1, a1, a2⟩ := G_next h
    rw [if_pos c, a1, Option.bind_some]; exact ⟨S1, rfl, a2⟩
  · obtain ⟨S1, a1, a2⟩ := G_fail (g := 2) (v := gI S 48 7) h
    obtain ⟨S2, b1, b2⟩ := G_next a2
    rw [if_neg c, a1, Option.bind_some, b1, Option.bind_some]; exact ⟨S2, rfl, b2⟩
theorem XF.wr {o j : Nat} {v : Int32} (hu : isT u) (h : XF t n bt f w S) (hp : PD u o j) (h48 : o = 48 → 11 ≤ j ∧ j ≠ 16 ∧ j ≠ 17) : XF t n bt f w (pI S o j v) := by
  obtain ⟨h1, h2, h3, h4, h5, h6⟩ := h
  have g : ∀ k, (k = 16 ∨ k = 17 ∨ k = 4 ∨ k = 5) → gI (pI S o j v) 48 k = gI S 48 k := fun k hk => by
    by_cases c : o = 48
    · exact gI_nek (by have := h48 c; omega)
    · exact gI_neo (fun e => c e.symm)
  exact ⟨h1.fd hu (Fr.rf.pI hp), (g 16 (by omega)).trans h2, h3, (g 17 (by omega)).trans h4, (g 5 (by omega)).trans h5, (g 4 (by omega)).trans h6⟩
/-- a cell of the draft that no bound hangs on, or a flag of the reader -/
theorem GX.wr {o j : Nat} {v : Int32} (h : GX t n bt f w u S0 S) (hp : PD u o j) (h48 : o = 48 → 11 ≤ j ∧ j ≠ 16 ∧ j ≠ 17) (hn : o = u → 10 ≤ j) (ht : ¬ (u + 3 ≤ o ∧ o ≤ u + 12 ∧ (o - u) % 2 = 1)) : GX t n bt f w u S0 (pI S o j v) := by
  obtain ⟨hu, h1, h2, h3⟩ := h
  have fr : Fr (fun a b => a = o ∧ b = j) S (pI S o j v) := Fr.rf.pI ⟨rfl, rfl⟩
  exact ⟨hu, h1.wr hu hp h48, h2.fr fr (fun q hq hh => ht (by omega)) (fun hh => by have := hn hh.1.symm; omega) (fun hh => by have := hn hh.1.symm; omega), h3.pI hp⟩
theorem GX.side {k : Nat} {v : Nat} (h : GX t n bt f w u S0 S) (hk : k = 8 ∨ k = 9) (h1 : 1 ≤ v) (h8 : v ≤ 8) : GX t n bt f w u S0 (pI S u k (nI v)) := by
  obtain ⟨hu, g1, ⟨a1, a2, a3, a4⟩, g3⟩ := h
  have hp : PD u u k := Or.inr (Or.inr (Or.inl ⟨rfl, by omega⟩))
  refine ⟨hu, g1.wr hu hp (fun e => by unfold isT at hu; omega), ⟨a1, fun q hq => ?_, ?_, ?_⟩, g3.pI hp⟩
  · rw [gI_neo (by omega)]; exact a2 q hq
  · rcases hk with rfl | rfl
    · exact ⟨v, gI_same, h1, h8⟩
    · rw [gI_nek (by decide)]; exact a3
  · rcases hk with rfl | rfl
    · rw [gI_nek (by decide)]; exact a4
    · exact ⟨v, gI_same, h1, h8⟩
theorem G_put {o q c : Nat} {v : Int32} (h : GX t n bt f w u S0 S) (ho : o = u + 3 + 2 * q) (hq : q < 5) (hc : c < wid q) : ∃ S1, fX7_put o (nI c) v S = some S1 ∧ GX t n bt f w u S0 S1 := by
  subst ho
  obtain ⟨k, hk, hT⟩ := h.2.2.1.tbl h.1 h.2.1.1 hq
  by_cases e : k < mxq q
  · have hu := h.1
    refine ⟨_, X_put hT e hc, h.wr (Or.inr (Or.inr (Or.inr (Or.inr (Or.inl ⟨by omega, by omega, fun hh => by omega⟩))))) (fun hh => ?_) (fun hh => by omega) (fun hh => by omega)⟩
    unfold isT at hu; omega
  · refine ⟨S, ?_, h⟩
    unfold fX7_put
    have : mxq q ≤ 24 := hT.2.2.2.2.2.2.1
    rw [hT.2.1, hT.2.2.2.1, if_pos ((nI_leI (by omega) (by omega)).mpr (by omega))]
theorem G_close {o q : Nat} (h : GX t n bt f w u S0 S) (ho : o = u + 3 + 2 * q) (hq : q < 5) : ∃ S1, fX7_close o S = some S1 ∧ GX t n bt f w u S0 S1 := by
  subst ho
  obtain ⟨k, hk, hT⟩ := h.2.2.1.tbl h.1 h.2.1.1 hq
  have h24 : mxq q ≤ 24 := hT.2.2.2.2.2.2.1
  unfold fX7_close
  rw [hT.2.1, hT.2.2.2.1]
  by_cases e : k < mxq q
  · rw [if_neg (nle (by omega) e), nI_1]
    obtain ⟨hu, g1, ⟨a1, a2, a3, a4⟩, g3⟩ := h
    have hp : PD u (u + 3 + 2 * q) 3 := Or.inr (Or.inr (Or.inr (Or.inr (Or.inl ⟨by omega, by omega, fun _ => rfl⟩))))
    refine ⟨_, rfl, hu, g1.wr hu hp (fun hh => by unfold isT at hu; omega), ⟨a1, fun p hp' => ?_, ?_, ?_⟩, g3.pI hp⟩
    · by_cases c : p = q
      · subst c; exact ⟨k + 1, gI_same, by omega⟩
      · rw [gI_neo (by omega)]; exact a2 p hp'
    · rw [gI_neo (by omega)]; exact a3
    · rw [gI_neo (by omega)]; exact a4
  · rw [if_pos ((nI_leI (by omega) (by omega)).mpr (by omega))]; exact ⟨S, rfl, h⟩
theorem G_name {o q : Nat} (h : GX t n bt f w u S0 S) (ho : o = u + 3 + 2 * q) (hq : q < 5) : ∃ S1, fX5_takeName 48 o S = some S1 ∧ GX t n bt f w u S0 S1 := by
  have hw : 0 < wid q := by rcases (by omega : q = 0 ∨ q = 1 ∨ q = 2 ∨ q = 3 ∨ q = 4) with rfl | rfl | rfl | rfl | rfl <;> decide
  obtain ⟨S1, a1, a2⟩ := G_fail (g := 1) (v := gI S 48 7) h
  obtain ⟨S2, b1, b2⟩ := G_put (c := 0) (v := gI S1 48 6) a2 ho hq hw
  have b1' : fX7_put o (0 : Int32) (gI S1 48 6) S1 = some S2 := b1
  obtain ⟨S3, c1, c2⟩ := G_next b2
  unfold fX5_takeName fX5_takeName_42
  rw [h.2.1.2.2.2.2.1, if_neg (show ¬ (0 : Int32) = 2 by decide), a1, Option.bind_some, b1', Option.bind_some, c1, Option.bind_some]
  exact ⟨S3, rfl, c2⟩
theorem F_room (h : GX t n bt f w u S0 S) : ∃ S1, fX5_readRoom_16 48 S = some S1 ∧ GX t n bt f w u S0 S1 := by
  obtain ⟨S1, a1, a2⟩ := G_next h
  obtain ⟨S2, b1, b2⟩ := G_num (lo := 1) (hi := 8) a2
  have b3 := b2.side (k := 8) (v := 1) (by omega) (by decide) (by decide)
  obtain ⟨S3, c1, c2⟩ := G_num (lo := 1) (hi := 8) b3
  have c1' : fX5_number 48 1 8 (pI S2 u 8 1) = some (1, S3) := c1
  have c3 := c2.side (k := 9) (v := 1) (by omega) (by decide) (by decide)
  unfold fX5_readRoom_16
  rw [a1, Option.bind_some, b1, Option.bind_some, a2.2.2.1.1]
  show ∃ S1, (fX5_number 48 1 8 (pI S2 u 8 1)).bind _ = some S1 ∧ _
  rw [c1', Option.bind_some]
  refine ⟨_, rfl, ?_⟩
  have e9 : gR (pI S2 u 8 1) 48 9 = u := b3.2.2.1.1
  show GX t n bt f w u S0 (pI S3 (gR (pI S2 u 8 1) 48 9) 9 1)
  rw [e9]
  exact c3
theorem PDu {j : Nat} (h : 8 ≤ j) : PD u u j := Or.inr (Or.inr (Or.inl ⟨rfl, h⟩))
theorem PD48 {j : Nat} (h : 4 ≤ j) : PD u 48 j := Or.inl ⟨rfl, h⟩
theorem GX.flag {j : Nat} {v : Int32} (h : GX t n bt f w u S0 S) (hj : 11 ≤ j ∧ j ≠ 16 ∧ j ≠ 17) : GX t n bt f w u S0 (pI S 48 j v) := by
  have hu := h.1
  unfold isT at hu
  exact h.wr (PD48 (by omega)) (fun _ => hj) (fun e => by omega) (fun e => by omega)
theorem GX.cell {j : Nat} {v : Int32} (h : GX t n bt f w u S0 S) (hj : 10 ≤ j) : GX t n bt f w u S0 (pI S u j v) := by
  have hu := h.1
  unfold isT at hu
  exact h.wr (PDu (by omega)) (fun e => by omega) (fun e => hj) (fun e => by omega)
theorem F_her (h : GX t n bt f w u S0 S) : ∃ S1, herX S = some S1 ∧ GX t n bt f w u S0 S1 := by
  have h0 := h.flag (j := 13) (v := 1) (by decide)
  unfold herX
  rw [show gR (pI S 48 13 (1 : Int32)) 48 9 = u from h0.2.2.1.1]
  obtain ⟨S1, a1, a2⟩ := G_num (lo := 0) (hi := gI (pI S 48 13 (1 : Int32)) u 8 - 1) h0
  rw [a1, Option.bind_some]
  have a3 := a2.cell (j := 10) (v := 0) (by decide)
  show ∃ S2, (fX5_number 48 0 (gI (pI S1 u 10 0) (gR (pI S1 u 10 0) 48 9) 9 - 1) (pI S1 u 10 0)).bind _ = some S2 ∧ _
  obtain ⟨S2, b1, b2⟩ := G_num (lo := 0) (hi := gI (pI S1 u 10 0) (gR (pI S1 u 10 0) 48 9) 9 - 1) a3
  rw [b1, Option.bind_some]
  show ∃ S3, some (pI S2 (gR (pI S1 u 10 0) 48 9) 11 0) = some S3 ∧ _
  rw [show gR (pI S1 u 10 0) 48 9 = u from a3.2.2.1.1]
  exact ⟨_, rfl, b2.cell (by decide)⟩
theorem F_cloud (h : GX t n bt f w u S0 S) : ∃ S1, cloudX S = some S1 ∧ GX t n bt f w u S0 S1 := by
  have h0 := h.flag (j := 14) (v := 1) (by decide)
  unfold cloudX
  rw [show gR (pI S 48 14 (1 : Int32)) 48 9 = u from h0.2.2.1.1]
  obtain ⟨S1, a1, a2⟩ := G_num (lo := 0) (hi := 100) h0
  rw [a1, Option.bind_some]
  exact ⟨_, rfl, a2.cell (by decide)⟩
theorem F_seed (h : GX t n bt f w u S0 S) : ∃ S1, seedX S = some S1 ∧ GX t n bt f w u S0 S1 := by
  have h0 := h.flag (j := 15) (v := 1) (by decide)
  unfold seedX
  rw [show gR (pI S 48 15 (1 : Int32)) 48 9 = u from h0.2.2.1.1]
  obtain ⟨S1, a1, a2⟩ := G_num (lo := 0) (hi := 99999) h0
  rw [a1, Option.bind_some]
  exact ⟨_, rfl, a2.cell (by decide)⟩
theorem F_step (h : GX t n bt f w u S0 S) : ∃ S1, stepX (u + 7) S = some S1 ∧ GX t n bt f w u S0 S1 := by
  unfold stepX
  obtain ⟨S1, a1, a2⟩ := G_num (lo := 0) (hi := 99) h
  obtain ⟨S2, b1, b2⟩ := G_put (o := u + 7) (q := 2) (c := 0) (v := 0) a2 rfl (by decide) (by decide)
  obtain ⟨S3, c1, c2⟩ := G_num (lo := 0) (hi := 3) b2
  obtain ⟨S4, d1, d2⟩ := G_put (o := u + 7) (q := 2) (c := 1) (v := 0) c2 rfl (by decide) (by decide)
  obtain ⟨S5, e1, e2⟩ := G_close (o := u + 7) (q := 2) d2 rfl (by decide)
  have b1' : fX7_put (u + 7) (0 : Int32) (0 : Int32) S1 = some S2 := b1
  have d1' : fX7_put (u + 7) (1 : Int32) (0 : Int32) S3 = some S4 := d1
  rw [a1, Option.bind_some, b1', Option.bind_some, c1, Option.bind_some, d1', Option.bind_some, e1, Option.bind_some]
  exact ⟨S5, rfl, e2⟩
theorem F_lamp (h : GX t n bt f w u S0 S) : ∃ S1, lampX (u + 5) S = some S1 ∧ GX t n bt f w u S0 S1 := by
  unfold lampX
  obtain ⟨S1, a1, a2⟩ := G_name (o := u + 5) (q := 1) h rfl (by decide)
  rw [a1, Option.bind_some]
  obtain ⟨S2, b1, b2⟩ := G_num (lo := 0) (hi := gI S1 (gR S1 48 9) 8 - 1) a2
  obtain ⟨S3, c1, c2⟩ := G_put (o := u + 5) (q := 1) (c := 1) (v := 0) b2 rfl (by decide) (by decide)
  have c1' : fX7_put (u + 5) (1 : Int32) (0 : Int32) S2 = some S3 := c1
  rw [b1, Option.bind_some, c1', Option.bind_some]
  obtain ⟨S4, d1, d2⟩ := G_num (lo := 0) (hi := gI S3 (gR S3 48 9) 9 - 1) c2
  obtain ⟨S5, e1, e2⟩ := G_put (o := u + 5) (q := 1) (c := 2) (v := 0) d2 rfl (by decide) (by decide)
  have e1' : fX7_put (u + 5) (2 : Int32) (0 : Int32) S4 = some S5 := e1
  rw [d1, Option.bind_some, e1', Option.bind_some]
  obtain ⟨S6, g1, g2⟩ := G_num (lo := 1) (hi := 9) e2
  obtain ⟨S7, k1, k2⟩ := G_put (o := u + 5) (q := 1) (c := 3) (v := 1) g2 rfl (by decide) (by decide)
  have k1' : fX7_put (u + 5) (3 : Int32) (1 : Int32) S6 = some S7 := k1
  obtain ⟨S8, l1, l2⟩ := G_close (o := u + 5) (q := 1) k2 rfl (by decide)
  rw [g1, Option.bind_some, k1', Option.bind_some, l1, Option.bind_some]
  exact ⟨S8, rfl, l2⟩
theorem F_man (h : GX t n bt f w u S0 S) : ∃ S1, manX (u + 11) S = some S1 ∧ GX t n bt f w u S0 S1 := by
  unfold manX
  obtain ⟨S1, a1, a2⟩ := G_name (o := u + 11) (q := 4) h rfl (by decide)
  rw [a1, Option.bind_some]
  obtain ⟨S2, b1, b2⟩ := G_num (lo := 0) (hi := gI S1 (gR S1 48 9) 8 - 1) a2
  obtain ⟨S3, c1, c2⟩ := G_put (o := u + 11) (q := 4) (c := 1) (v := 0) b2 rfl (by decide) (by decide)
  have c1' : fX7_put (u + 11) (1 : Int32) (0 : Int32) S2 = some S3 := c1
  rw [b1, Option.bind_some, c1', Option.bind_some]
  obtain ⟨S4, d1, d2⟩ := G_num (lo := 0) (hi := gI S3 (gR S3 48 9) 9 - 1) c2
  obtain ⟨S5, e1, e2⟩ := G_put (o := u + 11) (q := 4) (c := 2) (v := 0) d2 rfl (by decide) (by decide)
  have e1' : fX7_put (u + 11) (2 : Int32) (0 : Int32) S4 = some S5 := e1
  rw [d1, Option.bind_some, e1', Option.bind_some]
  obtain ⟨S8, l1, l2⟩ := G_close (o := u + 11) (q := 4) e2 rfl (by decide)
  rw [l1, Option.bind_some]
  exact ⟨S8, rfl, l2⟩
theorem F_doing (h : GX t n bt f w u S0 S) : ∃ S1, doingX (u + 9) S = some S1 ∧ GX t n bt f w u S0 S1 := by
  unfold doingX
  obtain ⟨S1, a1, a2⟩ := G_name (o := u + 9) (q := 3) h rfl (by decide)
  rw [a1, Option.bind_some]
  obtain ⟨T2, m1, m2⟩ := G_num (lo := 0) (hi := 1) a2
  obtain ⟨T3, n1, n2⟩ := G_put (o := u + 9) (q := 3) (c := 1) (v := 0) m2 rfl (by decide) (by decide)
  have n1' : fX7_put (u + 9) (1 : Int32) (0 : Int32) T2 = some T3 := n1
  rw [m1, Option.bind_some, n1', Option.bind_some]
  obtain ⟨S2, b1, b2⟩ := G_num (lo := 0) (hi := gI T3 (gR T3 48 9) 8 - 1) n2
  obtain ⟨S3, c1, c2⟩ := G_put (o := u + 9) (q := 3) (c := 2) (v := 0) b2 rfl (by decide) (by decide)
  have c1' : fX7_put (u + 9) (2 : Int32) (0 : Int32) S2 = some S3 := c1
  rw [b1, Option.bind_some, c1', Option.bind_some]
  obtain ⟨S4, d1, d2⟩ := G_num (lo := 0) (hi := gI S3 (gR S3 48 9) 9 - 1) c2
  obtain ⟨S5, e1, e2⟩ := G_put (o := u + 9) (q := 3) (c := 3) (v := 0) d2 rfl (by decide) (by decide)
  have e1' : fX7_put (u + 9) (3 : Int32) (0 : Int32) S4 = some S5 := e1
  rw [d1, Option.bind_some, e1', Option.bind_some]
  obtain ⟨S6, g1, g2⟩ := G_num (lo := 1) (hi := 99) e2
  obtain ⟨S7, k1, k2⟩ := G_put (o := u + 9) (q := 3) (c := 4) (v := 1) g2 rfl (by decide) (by decide)
  have k1' : fX7_put (u + 9) (4 : Int32) (1 : Int32) S6 = some S7 := k1
  obtain ⟨S8, l1, l2⟩ := G_close (o := u + 9) (q := 3) k2 rfl (by decide)
  rw [g1, Option.bind_some, k1', Option.bind_some, l1, Option.bind_some]
  exact ⟨S8, rfl, l2⟩
theorem F_sun43 {x : Int32} (h : GX t n bt f w u S0 S) : ∃ S1, fX5_readSun_43 48 (u + 3) x S = some S1 ∧ GX t n bt f w u S0 S1 := by
  unfold fX5_readSun_43
  obtain ⟨S1, a1, a2⟩ := G_put (o := u + 3) (q := 0) (c := 0) (v := x) h rfl (by decide) (by decide)
  have a1' : fX7_put (u + 3) (0 : Int32) x S = some S1 := a1
  obtain ⟨S2, b1, b2⟩ := G_num (lo := 0) (hi := 3) a2
  obtain ⟨S3, c1, c2⟩ := G_put (o := u + 3) (q := 0) (c := 1) (v := 0) b2 rfl (by decide) (by decide)
  have c1' : fX7_put (u + 3) (1 : Int32) (0 : Int32) S2 = some S3 := c1
  obtain ⟨S4, d1, d2⟩ := G_num (lo := 0) (hi := 7) c2
  obtain ⟨S5, e1, e2⟩ := G_put (o := u + 3) (q := 0) (c := 2) (v := 0) d2 rfl (by decide) (by decide)
  have e1' : fX7_put (u + 3) (2 : Int32) (0 : Int32) S4 = some S5 := e1
  obtain ⟨S6, g1, g2⟩ := G_close (o := u + 3) (q := 0) e2 rfl (by decide)
  rw [a1', Option.bind_some, b1, Option.bind_some, c1', Option.bind_some, d1, Option.bind_some, e1', Option.bind_some, g1, Option.bind_some]
  exact ⟨S6, rfl, g2⟩
theorem F_sun (h : GX t n bt f w u S0 S) : ∃ S1, sunX (u + 3) S = some S1 ∧ GX t n bt f w u S0 S1 := by
  unfold sunX
  obtain ⟨S1, a1, a2⟩ := G_num (lo := 0) (hi := 23) h
  obtain ⟨k, hk, hT⟩ := a2.2.2.1.tbl (q := 0) a2.1 a2.2.1.1 (by decide)
  have ef : fX7_find (u + 3) (0 : Int32) (0 : Int32) S1 = some _ := X_find (c := 0) (v := 0) hT (by decide)
  rw [a1, Option.bind_some, ef, Option.bind_some]
  split
  · exact F_sun43 a2
  · obtain ⟨S2, b1, b2⟩ := G_fail (g := 3) (v := gI S1 48 8) a2
    rw [b1, Option.bind_some]
    exact F_sun43 b2
theorem F_wall (h : GX t n bt f w u S0 S) : ∃ S1, wallX S = some S1 ∧ GX t n bt f w u S0 S1 := by
  unfold wallX
  obtain ⟨S1, a1, a2⟩ := G_num (lo := 0) (hi := gI S (gR S 48 9) 8 - 1) h
  obtain ⟨S2, b1, b2⟩ := G_num (lo := 0) (hi := gI S1 (gR S1 48 9) 9 - 1) a2
  rw [a1, Option.bind_some, b1, Option.bind_some]
  have hu := h.1
  have ic : ∀ {S3 : MS}, GX t n bt f w u S0 S3 → fX8_isCell u 0 0 S3 = some 1 := fun {S3} g => by
    obtain ⟨r, e8, r1, r2⟩ := g.2.2.1.2.2.1
    obtain ⟨c, e9, c1, c2⟩ := g.2.2.1.2.2.2
    unfold fX8_isCell
    rw [e8, e9, if_neg (by decide), if_neg (show ¬ nI r ≤ 0 from nle (i := 0) (by omega) r1), if_neg (by decide), if_neg (show ¬ nI c ≤ 0 from nle (i := 0) (by omega) c1)]
  have f94 : ∀ {S3 : MS}, GX t n bt f w u S0 S3 → ∃ S4, fX5_readWall_94 48 0 0 S3 = some S4 ∧ GX t n bt f w u S0 S4 := fun {S3} g => by
    unfold fX5_readWall_94 fX8_setWall
    rw [g.2.2.1.1, ic g, Option.bind_some, if_neg (by decide), rt_0 g.2.1.1.1 hu, lt_1 hu, if_pos (by decide), Option.bind_some]
    exact ⟨_, rfl, (g.wr (o := u + 1) (Or.inr (Or.inr (Or.inr (Or.inl rfl)))) (fun e => by unfold isT at hu; omega) (fun e => by omega) (fun e => by omega)).cell (by decide)⟩
  have f85 : ∃ S4, fX5_readWall_85 48 0 0 S2 = some S4 ∧ GX t n bt f w u S0 S4 := by
    unfold fX5_readWall_85
    obtain ⟨S3, c1, c2⟩ := G_fail (g := 5) (v := gI S2 48 8) b2
    rw [c1, Option.bind_some]
    exact f94 c2
  have iw : ∃ b, fX8_isWall (gR S2 48 9) 0 0 S2 = some b := by
    unfold fX8_isWall
    rw [b2.2.2.1.1, ic b2, Option.bind_some, if_neg (by decide), rt_0 b2.2.1.1.1 hu, lt_1 hu, if_pos (by decide)]
    split
    · exact ⟨_, rfl⟩
    · exact ⟨_, rfl⟩
  obtain ⟨b, eb⟩ := iw
  show ∃ S3, (fX8_isWall (gR S2 48 9) 0 0 S2).bind _ = some S3 ∧ _
  rw [eb, Option.bind_some]
  split
  · split
    · split
      · exact f85
      · exact f94 b2
    · exact f94 b2
  · exact f85
theorem F_law (h : GX t n bt f w u S0 S) : ∃ S1, fX5_readLaw 48 S = some S1 ∧ GX t n bt f w u S0 S1 := by
  unfold fX5_readLaw fX5_readLaw_22
  obtain ⟨S1, a1, a2⟩ := G_next h
  obtain ⟨S2, b1, b2⟩ := G_fail (g := 1) (v := gI S1 48 7) a2
  rw [a1, Option.bind_some, a2.2.1.2.2.2.2.1, if_pos (by decide), b1, Option.bind_some]
  exact ⟨S2, rfl, b2⟩
theorem F_end (h : GX t n bt f w u S0 S) : ∃ S1, fX5_readLine_150 48 S = some S1 ∧ GX t n bt f w u S0 S1 := by
  unfold fX5_readLine_150 fX5_expect
  obtain ⟨S2, b1, b2⟩ := G_fail (g := 1) (v := gI S 48 7) h
  rw [h.2.1.2.2.2.2.1, if_neg (by decide), b1, Option.bind_some, Option.bind_some]
  exact ⟨_, rfl, b2.flag (by decide)⟩
end GX
