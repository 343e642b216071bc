/-! ===== a law's line: a number, a name, a bracket ===== -/
section LJ
variable {t n u L b : Nat} {bt : Nat → Nat} {S0 R0 : MS}
def NT7 (_ : List Int32) (_ : Nat) : Prop := True
def Qn (k : Int32) (r : Nat) : Prop := k = 36 → 4 ≤ r
theorem HG_one {v : Int32} (h : -v ≤ 0 ∨ (37 ≤ -v ∧ -v ≤ 43)) : HG [v] := by
  intro l x
  show (if -v ≤ 0 ∨ (37 ≤ -v ∧ -v ≤ 43) then hgt l (x + 1) else _) = _
  rw [if_pos h]
theorem M_prim_f {Rc : Nat → MS → Option MS} {S : MS} {x : Int32} (h : gI S 0 34 ≠ 0) : fX11_primary_162 Rc 0 x S = some S := by
  unfold fX11_primary_162 fX11_primary_176 fX11_primary_194
  rw [M_knot_f h, Option.bind_some, M_puts_f h, M_puts_f h, M_puts_f h, M_puts_f h, Option.bind_some, M_goOn_f h, Option.bind_some]
  split <;> rfl
set_option maxRecDepth 100000 in
theorem nam_dec : ∀ j, j < 24 → (fX5_isName (nI (20 + j)) S00 = some (b2i (decide (17 ≤ j)))) ∧ (17 ≤ j → enK 1 (nI j - 17) = -(nI (20 + j)) ∧ (nI j - 17 = nI (j - 17)) ∧ (- -(nI (20 + j)) ≤ 0 ∨ (37 ≤ - -(nI (20 + j)) ∧ - -(nI (20 + j)) ≤ 43)) ∧ 0 ≤ nI j - 17 ∧ nI j - 17 ≤ 6) := by decide +kernel
theorem X_isName {k : Int32} {S S' : MS} : fX5_isName k S = fX5_isName k S' := rfl
theorem lv_prim {Rc : Nat → MS → Option MS} {m : Nat} (hE : ∀ (W O : List Int32) (kn op i a e : Nat) (SX SM : MS), 9 ≤ op + m → LJ t n bt u L b a e W O O kn op S0 R0 SX SM → rk (topK W) < 1 → i + 1 ≤ a → OUT t n bt u L b S0 R0 (rn 1 i SX) (Rc 0 SM) 1 NTe W O op a kn) :
    LV t n bt u L b S0 R0 (fun S => fX11_primary Rc 0 S) 7 7 NT7 (fun op _ => 9 ≤ op + m + 1) Qn := by
  refine ⟨fun S h => by show fX11_primary Rc 0 S = some S; unfold fX11_primary; rw [if_neg h], ?_⟩
  intro W O kn op i a e SX SM hp h _ hi hQ
  have pos := h.pos
  have z0 := h.jo.2.2.1
  have m0 := h.jo.2.2.2.1
  have tk := h.tk
  show OUT t n bt u L b S0 R0 (rn 1 i SX) (fX11_primary Rc 0 SM) 7 NT7 W O op a kn
  rw [rn_part (by omega) z0]
  -- both fail at once
  have fl : ∀ (f : Int32) (F : Option MS), f ≠ 0 → (∀ B, fX11_wrong 0 f SM = some B → gI B 0 34 ≠ 0 → F = some B) → fX5_takePart 48 SX = ((fX5_fail 48 f (gI SX 48 7) SX).bind fun q32 => some ((1 : Int32), q32)) → OUT t n bt u L b S0 R0 ((fX5_takePart 48 SX).bind fun q => rn q.1 (i + 1) q.2) F 7 NT7 W O op a kn := fun f F hf hF hX => by
    obtain ⟨A, B, c1, c2, c3, c4⟩ := lj_fail (f := f) h hf
    obtain ⟨SXf, x1, x2⟩ := lf_rn (i := i + 1) (d := 1) (by omega) c3
    rw [hX, c1, Option.bind_some, Option.bind_some]
    exact Or.inl ⟨SXf, B, x1, hF B c2 c4, x2⟩
  -- both lay a part
  have lay : ∀ (v s w : Int32) (F : Option MS), enK s w = v → okK s w → (-v ≤ 0 ∨ (37 ≤ -v ∧ -v ≤ 43)) → gI SX 48 5 ≠ 0 → fX5_takePart 48 SX = fX5_takePart_89 48 L v SX → (∀ B1 B2 B3, fX11_knot 0 SM = some B1 → (gI B1 0 34 = 0 → gI B1 0 33 = gI SM 0 33) → (∀ s' w', (gI B1 0 34 = 0 → s' = s ∧ w' = w) → fX11_puts 0 s' w' B1 = some B2) → fX11_goOn 0 B2 = some B3 → F = some B3) → OUT t n bt u L b S0 R0 ((fX5_takePart 48 SX).bind fun q => rn q.1 (i + 1) q.2) F 7 NT7 W O op a kn := fun v s w F hv hok hh k0 hX hF => by
    obtain ⟨A1, A2, A3, B1, B2, B3, c1, c2, c3, c4, c5, c6, c7, c8⟩ := lj_oper h hv hok
    have eF := hF B1 B2 B3 c4 c5 c6 c7
    rw [hX]
    unfold fX5_takePart_89
    rw [c1, Option.bind_some, c2, Option.bind_some, c3, Option.bind_some, Option.bind_some]
    rcases c8 with lf | ⟨a1, e1, lj, ea⟩
    · obtain ⟨SXf, x1, x2⟩ := lf_rn (i := i + 1) (d := 0) (by omega) lf
      exact Or.inl ⟨SXf, B3, x1, eF, x2⟩
    · have ae := pos.2.2 k0
      exact Or.inr ⟨[], [v], i + 1, a1, e1, kn + 1, O ++ [v], A3, B3, rfl, eF, lj, by simp, fun d hd => absurd hd (by simp), by omega, ⟨by omega, rfl⟩, HG_one hh, True.intro⟩
  unfold fX11_primary
  have s40 : fX11_isSign 0 (40 : Int32) SM = _ := lj_sign (c := 5) h (by decide) (by decide)
  rw [if_pos m0, s40, Option.bind_some]
  by_cases c5 : gI SX 48 5 = 5
  · rw [decide_eq_true (show gI SX 48 5 = nI 5 from c5), if_neg (show ¬ b2i true = 0 by decide), h.mp]
    by_cases o8 : op < 8
    · rw [if_neg (show ¬ nI op = 8 from fun q => by have := (nI_eq (show op < 2 ^ 31 by omega) (show (8 : Nat) < 2 ^ 31 by decide)).mp q; omega)]
      obtain ⟨A1, A3, B3, a1, e1, d1, d2, d3, d4, d5⟩ := lj_open h o8
      have eX : fX5_takePart 48 SX = some ((1 : Int32), A3) := by
        unfold fX5_takePart fX5_takePart_18 fX5_takePart_47
        rw [c5, if_neg (show ¬ (5 : Int32) = 3 by decide), if_pos rfl, h.xp, if_pos (show nI op < 8 from (nI_ltI (show op < 2 ^ 31 by omega) (show (8 : Nat) < 2 ^ 31 by decide)).mpr o8), if_neg (show ¬ (5 : Int32) = 3 by decide), show fX5_isName 5 SX = some 0 from rfl, Option.bind_some, if_pos rfl, if_pos rfl, d1, Option.bind_some, d2, Option.bind_some]
      have ae := pos.2.2 (by rw [c5]; decide)
      rw [eX, Option.bind_some]
      unfold fX11_primary_31
      rw [if_pos m0, d3, Option.bind_some]
      rcases hE (5 :: W) O kn (op + 1) (i + 1) a1 e1 A3 B3 (by omega) d4 (by show rk 5 < 1; decide) (by omega) with ⟨SXf, SM1, x1, x2, x3⟩ | ⟨D, c, i1, a2, e2, kn1, Ox, SX1, SM1, x1, x2, x3, x4, x5, x6, x7, x8, x9⟩
      · have z := x3.f34
        unfold fX11_primary_78
        rw [x2, Option.bind_some, if_neg z, if_neg z]
        exact Or.inl ⟨SXf, SM1, x1, rfl, x3⟩
      · have s41 : fX11_isSign 0 (41 : Int32) SM1 = _ := lj_sign (c := 6) x3 (by decide) (by decide)
        have pos1 := x3.pos
        show OUT t n bt u L b S0 R0 (rn 1 (i + 1) A3) _ 7 NT7 W O op a kn
        rw [x2, Option.bind_some, if_pos x3.jo.2.2.2.1, s41, Option.bind_some, x1]
        by_cases c6 : gI SX1 48 5 = 6
        · rw [decide_eq_true (show gI SX1 48 5 = nI 6 from c6), if_neg (show ¬ b2i true = 0 by decide)]
          obtain ⟨A, r1, r2⟩ := lj_rel (r := 1) x3 x4 (by decide) (by decide) x5 (by show rk 5 < 1; decide)
          obtain ⟨A4, B4, a4, e4, y1, y2, y3, y4, y5⟩ := lj_close r2
          have r1' : fX5_release 48 1 SX1 = some A := r1
          have hz : ¬ gI SX1 48 12 ≤ 0 := by rw [x3.xp]; exact nle (i := 0) (by omega) (by omega)
          unfold fX11_primary_78
          rw [if_pos x3.jo.2.2.2.1, y2, Option.bind_some, rn_close (by omega) x3.jo.2.2.1 c6 hz]
          unfold fX5_takeClose
          rw [r1', Option.bind_some, y1, Option.bind_some, Option.bind_some]
          have ae2 := pos1.2.2 (by rw [c6]; decide)
          exact Or.inr ⟨[], c, i1 + 1, a4, e4, kn1, O ++ c, A4, B4, rfl, rfl, y3, by simp, fun d hd => absurd hd (by simp), by omega, ⟨by omega, x7.2⟩, x8, True.intro⟩
        · rw [decide_eq_false (show ¬ gI SX1 48 5 = nI 6 from c6), if_pos (show b2i false = 0 by decide)]
          obtain ⟨SXf, B, y1, y2, y3, y4⟩ := lj_stuck x3 x4 x5 x6 c6 x9
          unfold fX11_primary_78
          rw [y1, y2, Option.bind_some, if_neg y4]
          exact Or.inl ⟨SXf, B, rfl, rfl, y3⟩
    · have o8' : op = 8 := by have := h.p8; omega
      rw [if_pos (by rw [o8']; rfl)]
      refine fl 2 _ (by decide) (fun B hB hz => ?_) ?_
      · unfold fX11_primary_31
        rw [hB, Option.bind_some, if_neg hz]
      · unfold fX5_takePart fX5_takePart_18 fX5_takePart_35
        rw [c5, if_neg (show ¬ (5 : Int32) = 3 by decide), if_pos rfl, h.xp, o8', if_neg (by decide)]
  · rw [decide_eq_false (show ¬ gI SX 48 5 = nI 5 from c5), if_pos (show b2i false = 0 by decide)]
    by_cases c3 : gI SX 48 5 = 3
    · have s2 := tk.num.mp c3
      rw [if_pos s2]
      obtain ⟨x, y, ex, ey, r⟩ : ∃ x y, gI SX 48 6 = nI x ∧ gI SM 0 33 = nI y ∧ nrR x y := by
        rcases tk with ⟨q, _⟩ | ⟨q, _⟩ | ⟨q, _⟩ | ⟨_, _, x, y, q1, q2, q3⟩ | ⟨q, _⟩ | ⟨q, _⟩
        · rw [c3] at q; exact absurd q (by decide)
        · rw [c3] at q; exact absurd q (by decide)
        · rw [c3] at q; exact absurd q (by decide)
        · exact ⟨x, y, q1, q2, q3⟩
        · rw [s2] at q; exact absurd q (by decide)
        · rw [s2] at q; exact absurd q (by decide)
      by_cases g : y ≤ 9999
      · have exy : x = y := by rcases r with q | q <;> omega
        subst exy
        refine lay (nI x) 0 (nI x) _ rfl (Or.inl ⟨rfl, nI_pos' (by omega), (nI_leI (by omega) (show (9999 : Nat) < 2 ^ 31 by decide)).mpr g⟩) (Or.inl ?_) (by rw [c3]; decide) ?_ (fun B1 B2 B3 k1 k2 k3 k4 => ?_)
        · rw [i_le]
          have e1 : (-(nI x)).toInt = -(x : Int) := by
            have := i_sub (a := 0) (b := nI x) (by rw [nI_toInt (by omega)]; show _ ≤ (0 : Int) - _; omega) (by rw [nI_toInt (by omega)]; show (0 : Int) - _ < _; omega)
            rw [nI_toInt (by omega)] at this
            rw [show -(nI x) = 0 - nI x by rw [Int32.zero_sub], this]
            show (0 : Int) - x = _; omega
          rw [e1]; show -(x : Int) ≤ 0; omega
        · unfold fX5_takePart fX5_takePart_18 fX5_takePart_47 fX5_takePart_65
          rw [c3, if_pos rfl, ex, if_neg (show ¬ (9999 : Int32) < nI x from fun q => absurd ((nI_ltI (show (9999 : Nat) < 2 ^ 31 by decide) (by omega)).mp q) (by omega)), if_neg (show ¬ (3 : Int32) = 5 by decide), if_pos rfl, if_pos rfl, h.r10]
        · unfold fX11_primary_114 fX11_primary_137 fX11_primary_162 fX11_primary_176 fX11_primary_194
          rw [if_neg (show ¬ (1 : Int32) = 0 by decide), ey, if_pos (show nI x ≤ 9999 from (nI_leI (by omega) (show (9999 : Nat) < 2 ^ 31 by decide)).mpr g), if_neg (show ¬ (1 : Int32) = 0 by decide), k1, Option.bind_some, if_neg (show ¬ (1 : Int32) = 0 by decide), if_neg (show ¬ (1 : Int32) = 0 by decide), k3 0 (gI B1 0 33) (fun q => ⟨rfl, (k2 q).trans ey⟩), Option.bind_some, k4, Option.bind_some]
      · have x9 : 9999 < x := by rcases r with q | q <;> omega
        have xb : x ≤ 1000000 ∧ y ≤ 999999 := by rcases r with q | q <;> omega
        refine fl 2 _ (by decide) (fun B hB hz => ?_) ?_
        · unfold fX11_primary_114
          rw [if_neg (show ¬ (1 : Int32) = 0 by decide), ey, if_neg (show ¬ nI y ≤ 9999 from fun q => g ((nI_leI (by omega) (show (9999 : Nat) < 2 ^ 31 by decide)).mp q)), hB, Option.bind_some, M_prim_f hz]
        · unfold fX5_takePart fX5_takePart_35
          rw [c3, if_pos rfl, ex, if_pos (show (9999 : Int32) < nI x from (nI_ltI (show (9999 : Nat) < 2 ^ 31 by decide) (by omega)).mpr x9)]
    · have s2 : ¬ gI SM 0 32 = 2 := fun q => c3 (tk.num.mpr q)
      rw [if_neg s2]
      unfold fX11_primary_114 fX11_primary_137 fX11_primary_157
      rw [if_pos rfl, if_pos rfl]
      -- no name: both fail
      have bad : (∀ S, fX5_isName (gI SX 48 5) S = some 0) → OUT t n bt u L b S0 R0 ((fX5_takePart 48 SX).bind fun q => rn q.1 (i + 1) q.2) ((fX11_wrong 0 1 SM).bind fun q9 => fX11_primary_162 Rc 0 0 q9) 7 NT7 W O op a kn := fun hnm => by
        refine fl 1 _ (by decide) (fun B hB hz => by rw [hB, Option.bind_some, M_prim_f hz]) ?_
        unfold fX5_takePart fX5_takePart_18 fX5_takePart_47 fX5_takePart_169
        rw [if_neg c3, if_neg c5, if_neg c3, hnm, Option.bind_some, if_pos rfl, if_neg c5]
        by_cases c36 : gI SX 48 5 = 36
        · have q4 := hQ c36
          rw [if_pos c36, X_last h.jo.1.1 h.xw, Option.bind_some, X_rank, Option.bind_some, if_pos (show (3 : Int32) < nI (rk (topK W)) from (nI_ltI (show (3 : Nat) < 2 ^ 31 by decide) (by have := rk_le (k := topK W); omega)).mpr (by omega))]
        · rw [if_neg c36]
      rcases tk with ⟨q1, q2⟩ | ⟨q1, q2⟩ | ⟨q1, q2, _⟩ | ⟨q1, _⟩ | ⟨q1, q2⟩ | ⟨q1, j, hj, q2, q3⟩
      · rw [if_neg (by rw [q2]; decide)]; exact bad (fun S => by rw [q1]; rfl)
      · rw [if_neg (by rw [q2]; decide)]; exact bad (fun S => by rw [q1]; rfl)
      · rw [if_neg (by rw [q2]; decide)]; exact bad (fun S => by rw [q1]; rfl)
      · exact absurd q1 c3
      · rw [if_neg (by rw [q1]; decide)]
        exact bad (fun S => by rcases of_decide_eq_true q2 with q | q | q | q | q | q | q | q | q | q | q | q | q <;> (rw [q.1]; rfl))
      · rw [if_pos q1]
        obtain ⟨n1, n2⟩ := nam_dec j hj
        by_cases g : 17 ≤ j
        · obtain ⟨n3, n4, n5, n6, n7⟩ := n2 g
          rw [if_pos (show (17 : Int32) ≤ gI SM 0 33 by rw [q3]; exact (nI_leI (show (17 : Nat) < 2 ^ 31 by decide) (by omega)).mpr g)]
          refine lay (-(nI (20 + j))) 1 (nI j - 17) _ n3 (Or.inr (Or.inl ⟨rfl, n6, n7⟩)) n5 ?_ ?_ (fun B1 B2 B3 k1 k2 k3 k4 => ?_)
          · rw [q2]; intro z; have := (w20 (c := 0) hj (by decide)).mp z; omega
          · unfold fX5_takePart fX5_takePart_18 fX5_takePart_47 fX5_takePart_65
            rw [if_neg c3, if_neg c5, if_neg c3, q2, X_isName (S' := S00), n1, Option.bind_some, decide_eq_true g, if_neg (show ¬ b2i true = 0 by decide), if_neg (by rw [← q2]; exact c3), h.r10]
          · unfold fX11_primary_162 fX11_primary_176 fX11_primary_194
            rw [k1, Option.bind_some, if_pos rfl, if_pos rfl, k3 1 (gI B1 0 33 - 17) (fun q => ⟨rfl, by rw [k2 q, q3]⟩), Option.bind_some, k4, Option.bind_some]
        · rw [if_neg (show ¬ (17 : Int32) ≤ gI SM 0 33 by rw [q3]; exact fun q => g ((nI_leI (show (17 : Nat) < 2 ^ 31 by decide) (by omega)).mp q))]
          exact bad (fun S => by rw [q2, X_isName (S' := S00), n1, decide_eq_false g]; rfl)
end LJ
