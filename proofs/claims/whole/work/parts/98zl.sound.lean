/-! ===== what both have read is sound ===== -/
section
variable {u r c hr hc nw cl sd kn ln : Nat} {kq zl : Nat → Nat} {A B S2 : MS}
theorem told_ok (hb : BC u A B r c hr hc nw kq cl sd kn zl ln) (hx : hr < r ∧ hc < c) (im : ∀ o, 2 ≤ o → o < 25 → ∀ j, j < hf o → gI S2 o j = gI B o (hf o + j)) : WT (tM S2) ∧ WE (tM S2) ∧ WKM S2 ∧ WWM S2 ∧ cellB (tM S2) (sc (tM S2) 10) (sc (tM S2) 11) = true := by
  obtain ⟨s0, s1, s2, s3, s4, s10, s11, s12⟩ := tk_sc hb im
  have hk : ∀ q, q < 5 → kq q ≤ mxq q ∧ mxq q ≤ 12 := fun q hq => ⟨(hb.2.2.2.1 q hq).1, (mBq q hq).2.2.2.2⟩
  have scq : ∀ q, q < 5 → sc (tM S2) q = nI (kq q) := fun q hq => by
    show scM S2 q = _
    unfold scM
    rw [if_pos hq, mNk5 q hq]; exact tk_cnt hb im hq
  have nqq : ∀ q, q < 5 → nq (tM S2) q = kq q := fun q hq => by
    unfold nq
    rw [scq q hq, nI_clamp (by have := hk q hq; omega)]
  have e8 : sc (tM S2) 8 = nI r := s0
  have e9 : sc (tM S2) 9 = nI c := s1
  have e10 : sc (tM S2) 10 = nI hr := s2
  have e11 : sc (tM S2) 11 = nI hc := s3
  have e13 : sc (tM S2) 13 = nI cl := s10
  have r8 := hb.1.2.2.2.2.1
  have c8 := hb.1.2.2.2.2.2.2.2.2
  have r1 := hb.1.2.2.2.1
  have c1 := hb.1.2.2.2.2.2.2.2.1
  have c100 := hb.2.2.2.2.2.1.2.2
  have tbq : ∀ q i j, q < 5 → i < nq (tM S2) q → j < wid q → ∃ x, tb (tM S2) q i j = nI x ∧ rgL q j ≤ x ∧ x ≤ rgM q j := fun q i j hq hi hj => by
    rw [nqq q hq] at hi
    obtain ⟨x, _, x2, x3, x4⟩ := tk_row hb im hq hi hj
    refine ⟨x, ?_, x3, x4⟩
    show tbM S2 q i j = _
    unfold tbM
    rw [if_pos ⟨hq, hj, by rw [tk_cnt hb im hq, nI_clamp (by have := hk q hq; omega)]; exact hi⟩]
    exact x2
  have le : ∀ a b : Nat, a < 1000 → b < 1000 → a ≤ b → nI a ≤ nI b := fun a b ha hb h => (nI_leI (by omega) (by omega)).mpr h
  have lt : ∀ a b : Nat, a < 1000 → b < 1000 → a < b → nI a < nI b := fun a b ha hb h => (nI_ltI (by omega) (by omega)).mpr h
  have pp : ∀ a : Nat, a < 1000 → (0 : Int32) ≤ nI a := fun a ha => nI_pos' (by omega)
  have cl : cellB (tM S2) (sc (tM S2) 10) (sc (tM S2) 11) = true := by
    unfold cellB
    rw [e8, e9, e10, e11]
    exact decide_eq_true ⟨nI_pos (by omega), fun q => absurd ((nI_leI (by omega) (by omega)).mp q) (by omega), nI_pos (by omega), fun q => absurd ((nI_leI (by omega) (by omega)).mp q) (by omega)⟩
  refine ⟨⟨fun q hq => ?_, fun k hk3 => ?_, fun k hk3 => ?_, ?_, ⟨fun i hi => ?_, fun i hi => ?_, fun h hh => ?_⟩⟩, ⟨?_, ?_, fun i hi => ?_⟩, fun k hk3 => ?_, ?_, cl⟩
  · have := hk q hq
    rw [scq q hq]
    exact ⟨pp _ (by omega), le _ _ (by omega) (by omega) this.1⟩
  · obtain ⟨f, _, _, _, _, e⟩ := tk_law hb im hk3
    have z64 := (hb.2.2.2.2.2.2.2.2.1 k hk3).1
    have e' : lwl (tM S2) k = ouX A (u + 14 + 3 * k) (zl k) := e
    rw [e']
    unfold ouX
    rw [List.length_map, List.length_range]
    exact z64
  · obtain ⟨f, _, _, _, _, e⟩ := tk_law hb im hk3
    have e' : lwl (tM S2) k = ouX A (u + 14 + 3 * k) (zl k) := e
    obtain ⟨_, _, _, _, _, _, _, _, l8⟩ := hb.2.2.2.2.2.2.2.2.1 k hk3
    rw [e']
    rcases l8 with z | g
    · left; rw [z]; rfl
    · right
      have := g [] 0
      rw [List.append_nil] at this
      exact this
  · show 0 < sc (tM S2) 8 ∧ sc (tM S2) 8 ≤ 8 ∧ 0 < sc (tM S2) 9 ∧ sc (tM S2) 9 ≤ 8
    rw [e8, e9]
    exact ⟨lt 0 r (by omega) (by omega) (by omega), le r 8 (by omega) (by omega) r8, lt 0 c (by omega) (by omega) (by omega), le c 8 (by omega) (by omega) c8⟩
  · obtain ⟨x, x1, _, x2⟩ := tbq 1 i 1 (by decide) hi (by decide)
    obtain ⟨y, y1, _, y2⟩ := tbq 1 i 2 (by decide) hi (by decide)
    have x3 : x ≤ 7 := x2
    have y3 : y ≤ 7 := y2
    rw [x1, y1]
    exact ⟨pp x (by omega), lt x 8 (by omega) (by omega) (by omega), pp y (by omega), lt y 8 (by omega) (by omega) (by omega)⟩
  · obtain ⟨x, x1, _, x2⟩ := tbq 0 i 1 (by decide) hi (by decide)
    obtain ⟨y, y1, _, y2⟩ := tbq 0 i 2 (by decide) hi (by decide)
    have x3 : x ≤ 3 := x2
    have y3 : y ≤ 7 := y2
    rw [x1, y1]
    exact ⟨pp x (by omega), le x 3 (by omega) (by omega) (by omega), pp y (by omega), le y 7 (by omega) (by omega) (by omega)⟩
  · show snM S2 h = -1 ∨ ∃ i, i < nq (tM S2) 0 ∧ snM S2 h = nI i
    unfold snM
    rw [if_pos hh, show gI S2 2 5 = nI (kq 0) from tk_cnt hb im (q := 0) (by decide), nI_clamp (by have := hk 0 (by decide); omega), nqq 0 (by decide)]
    exact sunGo_rng (N := kq 0) _ _ _ _ (by omega) (Or.inl rfl) (Or.inl rfl)
  · rw [e13]; exact pp _ (by omega)
  · rw [e13]; exact le _ 100 (by omega) (by omega) c100
  · obtain ⟨x, x1, x0, x2⟩ := tbq 3 i 4 (by decide) hi (by decide)
    have x3 : x ≤ 99 := x2
    have x4 : 1 ≤ x := x0
    rw [x1]
    exact ⟨le 1 x (by omega) (by omega) x4, le x 99 (by omega) (by omega) x3⟩
  · obtain ⟨f, f1, f2, f3, f4, _⟩ := tk_law hb im hk3
    rw [f1, f2, nI_clamp (by omega)]
    refine ⟨pp f (by omega), le f _ (by omega) (by omega) (by omega), le _ 64 (by omega) (by omega) (by omega), fun i hi => ?_⟩
    rw [im 23 (by decide) (by decide) i (show i < 64 by omega), im 24 (by decide) (by decide) i (show i < 64 by omega)]
    exact hb.2.2.2.2.2.2.2.1.2.2.2.2.2 i (by omega)
  · unfold WWM
    have w8 := hb.2.2.1.1
    rw [s4]
    exact ⟨pp nw (by omega), le nw 8 (by omega) (by omega) w8⟩
end
