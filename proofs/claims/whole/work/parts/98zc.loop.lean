/-! ===== any line, and all of them ===== -/
theorem line_any {t n u a e r c hr hc nw cl sd kn ln : Nat} {bt kq zl : Nat → Nat} {SX SM : MS} (h : JO t n bt a e SX SM) (h0 : bt 1000 = 0) (hu : isT u) (hb : BD u SX SM r c hr hc nw kq cl sd kn zl ln) (hx : hr < r ∧ hc < c ∧ (ln = 0 → hr = 0 ∧ hc = 0)) (hl : ln ≤ 700) : ∃ SX1 SM1, fX5_readLine 48 SX = some SX1 ∧ fX11_line 0 SM = some SM1 ∧ LNo t n bt u e (ln + 1) SX SM SX1 SM1 := by
  rcases h.2.2.2.2.2.2.2.2.2.2.now with ⟨w, w11, kw, _, _⟩ | ⟨n1, n2⟩
  · rcases (by omega : w = 0 ∨ w = 1 ∨ w = 2 ∨ w = 3 ∨ w = 4 ∨ w = 5 ∨ w = 6 ∨ w = 7 ∨ w = 8 ∨ w = 9 ∨ w = 10) with rfl | rfl | rfl | rfl | rfl | rfl | rfl | rfl | rfl | rfl | rfl
    · exact line_r0 h h0 hu hb hx hl kw
    · exact line_h1 h h0 hu hb hx kw
    · exact line_w2 h h0 hu hb hx kw
    · exact line_t3 h h0 hu hb hx kw
    · exact line_t4 h h0 hu hb hx kw
    · exact line_t5 h h0 hu hb hx kw
    · exact line_t6 h h0 hu hb hx kw
    · exact line_t7 h h0 hu hb hx kw
    · exact line_o8 h h0 hu hb hx kw
    · exact line_o9 h h0 hu hb hx kw
    · exact line_l10 h h0 hu hb hx kw
  · exact line_bad (line_none h hu hb.xd n1 n2)
theorem QFX.rf {u : Nat} {S : MS} : QFX u S S := ⟨fun _ _ _ => rfl, fun _ _ _ => rfl⟩
theorem LNo.at {t n u g g1 ln : Nat} {bt : Nat → Nat} {S R SX SM SX1 SM1 : MS} (h : LNo t n bt u g ln SX SM SX1 SM1) (hg : g1 ≤ g) (f : QFX u S SX) (m : Fr QFM R SM) : LNo t n bt u g1 ln S R SX1 SM1 := by
  obtain ⟨h1, h2, h3⟩ := h
  refine ⟨?_, f.tr h2, m.tr h3⟩
  rcases h1 with h1 | ⟨a, e, r, c, hr, hc, nw, kq, cl, sd, kn, zl, q1, q2, q3, q4⟩
  · exact Or.inl h1
  · exact Or.inr ⟨a, e, r, c, hr, hc, nw, kq, cl, sd, kn, zl, q1, by omega, q3, q4⟩
theorem X38s {m : Nat} {x1 x2 : Int32} {S : MS} : fX10_text_38 (m + 1) 0 x1 x2 S = (if x1 ≤ x2 then fX10_text_66 0 S else (fX5_hasMore (gR S 0 3) S).bind fun q11 => (if q11 = (0 : Int32) then fX10_text_66 0 S else (fX5_readLine (gR S 0 3) S).bind fun q15 => (fX10_text_38 m) 0 x1 (x2 + (1 : Int32)) q15)) := rfl
theorem M131s {m : Nat} {S : MS} : fX11_text_131 (m + 1) 0 S = (if gI S 0 34 = (0 : Int32) then (if gI S 0 32 = (4 : Int32) then fX11_text_153 0 S else (fX11_line 0 S).bind fun q75 => (fX11_text_131 m) 0 q75) else fX11_text_153 0 S) := rfl
/-- all lines: both come to the end of the text, or behind the same fault -/
theorem text_loop {t n u : Nat} {bt : Nat → Nat} (h0 : bt 1000 = 0) (hu : isT u) : ∀ (m ln a e r c hr hc nw : Nat) (kq : Nat → Nat) (cl sd kn : Nat) (zl : Nat → Nat) (SX SM : MS), n + 2 ≤ ln + m → ln ≤ a → JO t n bt a e SX SM → BD u SX SM r c hr hc nw kq cl sd kn zl ln → (hr < r ∧ hc < c ∧ (ln = 0 → hr = 0 ∧ hc = 0)) →
    ∃ SX1 SM1 ln1, fX10_text_38 m 0 (nI n) (nI ln) SX = fX10_text_66 0 SX1 ∧ fX11_text_131 m 0 SM = fX11_text_153 0 SM1 ∧ LNo t n bt u 0 ln1 SX SM SX1 SM1 := by
  intro m
  induction m with
  | zero =>
    intro ln a e r c hr hc nw kq cl sd kn zl SX SM hm hl h hb hx
    have h5 := h.2.2.2.2.2.2.2.2.1.1
    rcases h.2.2.2.2.2.2.2.2.2.1 with ⟨_, q, _⟩ | ⟨_, q⟩
    · omega
    · omega
  | succ m ih =>
    intro ln a e r c hr hc nw kq cl sd kn zl SX SM hm hl h hb hx
    have h5 := h.2.2.2.2.2.2.2.2.1.1
    have n7 := h.2.1.2.2.1
    have tk := h.2.2.2.2.2.2.2.2.2.2
    have r3 : gR SX 0 3 = 48 := rx_0_3 h.1.1
    rw [X38s, M131s, r3, if_pos h.2.2.2.1]
    unfold fX5_hasMore
    rcases h.2.2.2.2.2.2.2.2.2.1 with ⟨q, qa, qe⟩ | ⟨q, qa⟩
    · refine ⟨SX, SM, ln, ?_, ?_, Or.inr ⟨a, e, r, c, hr, hc, nw, kq, cl, sd, kn, zl, h, Nat.zero_le _, ⟨hx.1, hx.2.1⟩, hb⟩, QFX.rf, Fr.rf⟩
      · rw [if_pos q, Option.bind_some, if_pos rfl]
        split <;> rfl
      · rw [if_pos (tk.fin.mp q)]
    · obtain ⟨SX1, SM1, c1, c2, c3⟩ := line_any h h0 hu hb hx (by omega)
      rw [if_neg (show ¬ nI n ≤ nI ln from fun z => absurd ((nI_leI (by omega) (by omega)).mp z) (by omega)), if_neg q, Option.bind_some, if_neg (show ¬ (1 : Int32) = 0 by decide), c1, Option.bind_some, if_neg (fun z => q (tk.fin.mpr z)), c2, Option.bind_some, nI_1]
      obtain ⟨d1, d2, d3⟩ := c3
      rcases d1 with jf | ⟨a', e', r', c', hr', hc', nw', kq', cl', sd', kn', zl', jo, ga, gh, bd⟩
      · obtain ⟨m', rfl⟩ : ∃ m', m = m' + 1 := ⟨m - 1, by omega⟩
        refine ⟨SX1, SM1, ln + 1, ?_, ?_, Or.inl jf, d2, d3⟩
        · obtain ⟨f, w, x, _⟩ := jf
          have r3' : gR SX1 0 3 = 48 := rx_0_3 x.1.1
          rw [X38s, r3']
          unfold fX5_hasMore
          rw [if_pos x.2.2.2.2.1, Option.bind_some, if_pos rfl]
          split <;> rfl
        · obtain ⟨f, w, x, _, z, _⟩ := jf
          rw [M131s, if_neg (by rw [z]; exact x.2.2.1)]
      · obtain ⟨S2, M2, ln2, e1, e2, e3⟩ := ih (ln + 1) a' e' r' c' hr' hc' nw' kq' cl' sd' kn' zl' SX1 SM1 (by omega) (by omega) jo bd ⟨gh.1, gh.2, fun q => absurd q (by omega)⟩
        exact ⟨S2, M2, ln2, e1, e2, e3.at (Nat.le_refl _) d2 d3⟩
