/-! ===== the end of a line, both sides ===== -/
def EX (o j : Nat) : Prop := NY o j ∨ (o = 48 ∧ j = 18)
def EM (o j : Nat) : Prop := NN o j ∨ (o = 0 ∧ j = 28)
theorem j_end {t n u ln : Nat} {bt : Nat → Nat} {SX SM : MS} (hu : isT u) (h : JJ t n bt SX SM) (hx : gI SX 48 18 = nI ln) (hm : gI SM 0 28 = nI ln) :
    ∃ SX1 SM1, fX5_readLine_150 48 SX = some SX1 ∧ fX11_line_596 0 SM = some SM1 ∧ JJ t n bt SX1 SM1 ∧ Fr EX SX SX1 ∧ Fr EM SM SM1 ∧ gI SX1 48 18 = nI (ln + 1) ∧ (gI SX1 48 16 = 0 → gI SX 48 16 = 0 ∧ gI SM1 0 28 = nI (ln + 1)) := by
  have pd : PD u 48 18 := PD48 (by decide)
  unfold fX5_readLine_150 fX5_expect fX11_line_596 fX11_line_625
  rcases h with ⟨a, e, h⟩ | ⟨f, w, x, m, z, p⟩
  · have tk := h.2.2.2.2.2.2.2.2.2.2
    have q4 := tk.sgn (c := 4) (by decide) (by decide)
    rw [if_pos h.2.2.2.1]
    unfold fX11_isSign
    rw [if_pos h.2.2.2.1]
    by_cases c : gI SX 48 5 = 4
    · obtain ⟨s1, s2⟩ := q4.mp c
      have s2' : gI SM 0 33 = 59 := s2
      obtain ⟨A, B, a1, e1, c1, c2, c3, c4, c5, _, c7⟩ := j_next h
      rw [if_pos c, c1, Option.bind_some, Option.bind_some, if_pos s1, if_pos s2', Option.bind_some, if_neg (show ¬ (1 : Int32) = 0 by decide), c2, Option.bind_some]
      have ex : gI A 48 18 = nI ln := by rw [c4.2 _ _ (fun hp => by unfold NX at hp; omega)]; exact hx
      have em : gI B 0 28 = nI ln := by rw [c5.2 _ _ (fun hp => by unfold NM at hp; omega)]; exact hm
      rw [ex, em, nI_1]
      have gX : Fr EX SX A := c4.mo (fun o j hp => Or.inl (NX_NY o j hp))
      have gM : Fr EM SM B := c5.mo (fun o j hp => Or.inl (NM_NN o j hp))
      exact ⟨_, _, rfl, rfl, Or.inl ⟨a1, e1, (c3.pX hu pd (fun _ => by decide)).pM (by decide) (fun _ => by decide)⟩, gX.pI (Or.inr ⟨rfl, rfl⟩), gM.pI (Or.inr ⟨rfl, rfl⟩), gI_same, fun _ => ⟨h.2.2.1, gI_same⟩⟩
    · obtain ⟨A, B, c1, c2, c3, c4, c5⟩ := j_fail (f := 1) h (by decide)
      have e0 : (if gI SM 0 32 = 3 then (if gI SM 0 33 = 59 then (some 1 : Option Int32) else some 0) else some 0) = some 0 := by
        by_cases s1 : gI SM 0 32 = 3
        · rw [if_pos s1, if_neg (show ¬ gI SM 0 33 = 59 from fun s2 => c (q4.mpr ⟨s1, s2⟩))]
        · rw [if_neg s1]
      have ex : gI A 48 18 = nI ln := by rw [c4.2 _ _ (fun hp => by unfold NY at hp; omega)]; exact hx
      rw [if_neg c, c1, Option.bind_some, Option.bind_some, e0, Option.bind_some, if_pos rfl, c2, Option.bind_some, ex, nI_1]
      have gX : Fr EX SX A := c4.mo (fun o j hp => Or.inl hp)
      have gM : Fr EM SM B := c5.mo (fun o j hp => Or.inl hp)
      refine ⟨_, _, rfl, rfl, (JJ.pX (Or.inr c3) hu pd (fun _ => by decide)).pM (by decide) (fun _ => by decide), gX.pI (Or.inr ⟨rfl, rfl⟩), gM.pI (Or.inr ⟨rfl, rfl⟩), gI_same, fun hz => ?_⟩
      rw [gI_nek (by decide)] at hz
      obtain ⟨ff, ww, q1, _⟩ := c3
      exact absurd (q1.2.1.symm.trans hz) q1.2.2.1
  · obtain ⟨A, c1, c2, c3⟩ := X_fail_f (g := 1) (v := gI SX 48 7) x
    have ex : gI A 48 18 = nI ln := by rw [c3.2 _ _ (fun hp => by unfold NY at hp; omega)]; exact hx
    rw [if_neg (by rw [x.2.2.2.2.1]; decide), c1, Option.bind_some, Option.bind_some, if_neg (by rw [z]; exact x.2.2.1), ex, nI_1]
    have gX : Fr EX SX A := c3.mo (fun o j hp => Or.inl hp)
    refine ⟨_, _, rfl, rfl, JJ.pX (Or.inr ⟨f, w, c2, m, z, p⟩) hu pd (fun _ => by decide), gX.pI (Or.inr ⟨rfl, rfl⟩), Fr.rf, gI_same, fun hz => ?_⟩
    rw [gI_nek (by decide)] at hz
    exact absurd (c2.2.1.symm.trans hz) c2.2.2.1
