/-! ===== a law's line: comparisons, not, and, or ===== -/
def NTn (D : List Int32) (r : Nat) : Prop := r ≤ 3 ∨ (r = 4 ∧ cmpT D)
def NTc (D : List Int32) (r : Nat) : Prop := (r ≤ 3 ∧ r ≠ 2) ∨ (r = 4 ∧ cmpT D)
theorem NTn_app {D : List Int32} {k : Int32} {x : Nat} (h : NTn D x) : NTn (D ++ [k]) x := by
  rcases h with h | h
  · exact Or.inl h
  · exact Or.inr ⟨h.1, cmpT_app D k h.2⟩
theorem NTc_app {D : List Int32} {k : Int32} {x : Nat} (h : NTc D x) : NTc (D ++ [k]) x := by
  rcases h with h | h
  · exact Or.inl h
  · exact Or.inr ⟨h.1, cmpT_app D k h.2⟩
theorem cmpT_mk : ∀ (D : List Int32) (k : Int32), (∀ d ∈ D, 5 ≤ rk d) → rk k = 4 → cmpT (D ++ [k])
  | [], k, _, h => Or.inl h
  | d :: D, k, hD, h => Or.inr ⟨hD d (List.mem_cons_self ..), cmpT_mk D k (fun x hx => hD x (List.mem_cons_of_mem _ hx)) h⟩
theorem HG_not {c : List Int32} (hc : HG c) : HG (c ++ [-36]) := by
  intro l h
  rw [List.append_assoc, hc]
  rfl
set_option maxRecDepth 100000 in
theorem wrk_dec : ∀ i, i < 24 → rk (nI (20 + i)) ≠ 4 := by decide +kernel
theorem cmp_dec {k v so va : Int32} {X Y : Option MS} (h : TK k v so va) : (if so = 3 then (if va = 60 then X else (if va = 62 then X else (if va = 61 then X else (if (256 : Int32) ≤ va then X else Y)))) else Y) = if rk k = 4 then X else Y := by
  rcases h with ⟨rfl, rfl⟩ | ⟨rfl, rfl⟩ | ⟨rfl, rfl, _⟩ | ⟨rfl, rfl, _⟩ | ⟨rfl, q⟩ | ⟨rfl, i, hi, rfl, rfl⟩
  · rfl
  · rfl
  · rfl
  · rfl
  · rcases of_decide_eq_true q with q | q | q | q | q | q | q | q | q | q | q | q | q <;> (rw [q.1, q.2]; rfl)
  · rw [if_neg (show ¬ (0 : Int32) = 3 by decide), if_neg (wrk_dec i hi)]
def isC (k : Int32) : Bool := decide (k = 11 ∨ k = 12 ∨ k = 13 ∨ k = 14 ∨ k = 15 ∨ k = 16)
theorem cmp_val {k v so va : Int32} (h : TK k v so va) (h4 : rk k = 4) : isBin k = true ∧ enK 2 va = -k ∧ okK 2 va ∧ k ≠ 36 ∧ k ≠ 0 := by
  rcases h with ⟨rfl, rfl⟩ | ⟨rfl, rfl⟩ | ⟨rfl, rfl, _⟩ | ⟨rfl, rfl, _⟩ | ⟨rfl, q⟩ | ⟨rfl, i, hi, rfl, rfl⟩
  · exact absurd h4 (by decide)
  · exact absurd h4 (by decide)
  · exact absurd h4 (by decide)
  · exact absurd h4 (by decide)
  · rcases of_decide_eq_true q with q | q | q | q | q | q | q | q | q | q | q | q | q <;> (rw [q.1] at h4 ⊢; rw [q.2]; first | exact absurd h4 (by decide) | exact ⟨by decide, by decide, okS (by decide), by decide, by decide⟩)
  · exact absurd h4 (wrk_dec i hi)
section LJ
variable {t n u L b : Nat} {bt : Nat → Nat} {S0 R0 : MS}
/-- a comparison, the first one here -/
theorem lj_ts4 {a e kn op : Nat} {W Ox Om : List Int32} {SX SM : MS} {D : List Int32} (h : LJ t n bt u L b a e (D ++ W) Ox Om kn op S0 R0 SX SM) (ho : Om = Ox ++ D.map (fun d => -d)) (hk : rk (gI SX 48 5) = 4) (hD : ∀ d ∈ D, 5 ≤ rk d) (hW : rk (topK W) < 4) :
    ∃ A3 B1 B3, fX5_takeSign 48 SX = some A3 ∧ fX11_knot 0 SM = some B1 ∧ fX11_goOn 0 B1 = some B3 ∧ (LF t n bt u L b S0 R0 A3 B3 ∨ ∃ a1 e1, LJ t n bt u L b a1 e1 (gI SX 48 5 :: W) Om Om (kn + 1) op S0 R0 A3 B3 ∧ e ≤ a1) := by
  obtain ⟨A, r1, r2⟩ := lj_rel (r := 5) h ho (by decide) (by decide) hD (by omega)
  have hkA : gI A 48 5 = gI SX 48 5 := by
    obtain ⟨A', r1', r2', _, _, r5'⟩ := X_rel (r := 5) h.hu h.hL (show rk (topK W) < 5 by omega) (by decide) hD h.jo.1.1 h.r10 h.xw h.xz (by
      have e1 := h.ct
      have e2 := h.np
      have e3 := nop_app D W (fun d hd => by have := hD d hd; omega)
      have e4 := nop_le W
      have e5 := h.k64
      rw [List.length_append] at e1
      omega)
    have eA : A' = A := Option.some.inj (r1'.symm.trans r1)
    subst eA
    rw [r5'.2 _ _ (fun hp => by have := h.num; unfold RLw at hp; omega)]
  obtain ⟨A1, A2, A3, B1, B3, q1, q2, q3, q4, q5, q6⟩ := lj_hold (k := gI SX 48 5) r2 (by omega)
  refine ⟨A3, B1, B3, ?_, q4, q5, q6⟩
  have r1' : fX5_release 48 (nI 4 + 1) SX = some A := r1
  unfold fX5_takeSign fX5_takeSign_18 fX5_takeSign_31
  rw [X_rank, Option.bind_some, hk, if_pos (show nI 4 = 4 from rfl), if_neg (show ¬ (1 : Int32) = 0 by decide), r1', Option.bind_some, if_neg (show ¬ (1 : Int32) = 0 by decide), X_last r2.jo.1.1 r2.xw, Option.bind_some, X_rank, Option.bind_some, if_neg (fun q => by have := (nI_eq (show rk (topK W) < 2 ^ 31 by omega) (show (4 : Nat) < 2 ^ 31 by decide)).mp q; omega)]
  exact X_ts59 hkA q1 q2 q3
theorem neg_f {Rc : Nat → MS → Option MS} {m : Nat} {S : MS} (hs : ∀ S, gI S 0 34 ≠ 0 → fX11_sum Rc 0 S = some S) (h : gI S 0 34 ≠ 0) : fX11_negN Rc (m + 1) 0 S = some S := by
  show fX11_negation_B Rc (fX11_negN Rc m) 0 S = some S
  unfold fX11_negation_B
  rw [M_word_f h, Option.bind_some, if_pos rfl, hs S h, Option.bind_some, if_neg h]
theorem lv_neg {Rc : Nat → MS → Option MS} {Pe : Nat → Prop} (hs : LV t n bt u L b S0 R0 (fun S => fX11_sum Rc 0 S) 5 5 NTs (fun op _ => Pe op) Qn) : ∀ (m : Nat) (W O : List Int32) (kn op i a e : Nat) (SX SM : MS), Pe op → 66 ≤ kn + m → LJ t n bt u L b a e W O O kn op S0 R0 SX SM → rk (topK W) < 4 → i + 1 ≤ a → OUT t n bt u L b S0 R0 (rn 1 i SX) (fX11_negN Rc m 0 SM) 3 NTn W O op a kn := by
  intro m
  induction m with
  | zero =>
    intro W O kn op i a e SX SM hp hk h
    have := h.k64
    omega
  | succ m ih =>
    intro W O kn op i a e SX SM hp hkn h hW hi
    have pos := h.pos
    have k64 := h.k64
    obtain ⟨m', rfl⟩ : ∃ m', m = m' + 1 := ⟨m - 1, by omega⟩
    have hw : fX11_isWord 0 (16 : Int32) SM = _ := lj_word (j := 16) h (by decide)
    show OUT t n bt u L b S0 R0 (rn 1 i SX) (fX11_negation_B Rc (fX11_negN Rc (m' + 1)) 0 SM) 3 NTn W O op a kn
    unfold fX11_negation_B
    rw [hw, Option.bind_some]
    by_cases c : gI SX 48 5 = 36
    · rw [decide_eq_true (show gI SX 48 5 = nI (20 + 16) from c), if_neg (show ¬ b2i true = 0 by decide)]
      obtain ⟨A1, A2, A3, B1, B3, q1, q2, q3, q4, q5, q6⟩ := lj_hold (k := 36) h (by decide)
      have eX : fX5_takePart 48 SX = some ((1 : Int32), A3) := by
        unfold fX5_takePart fX5_takePart_18 fX5_takePart_47
        rw [c, if_neg (show ¬ (36 : Int32) = 3 by decide), if_neg (show ¬ (36 : Int32) = 5 by decide), if_neg (show ¬ (36 : Int32) = 3 by decide), show fX5_isName 36 SX = some 0 from rfl, Option.bind_some, if_pos rfl, if_neg (show ¬ (36 : Int32) = 5 by decide), if_pos rfl, X_last h.jo.1.1 h.xw, Option.bind_some, X_rank, Option.bind_some, if_neg (show ¬ (3 : Int32) < nI (rk (topK W)) from fun q => absurd ((nI_ltI (show (3 : Nat) < 2 ^ 31 by decide) (by omega)).mp q) (by omega)), q1, Option.bind_some, q2, Option.bind_some, q3, Option.bind_some]
      have ae := pos.2.2 (by rw [c]; decide)
      rw [rn_part (by omega) h.jo.2.2.1, eX, Option.bind_some, q4, Option.bind_some, q5, Option.bind_some]
      show OUT t n bt u L b S0 R0 (rn 1 (i + 1) A3) _ 3 NTn W O op a kn
      rcases q6 with lf | ⟨a1, e1, lj, ea⟩
      · obtain ⟨SXf, x1, x2⟩ := lf_rn (i := i + 1) (d := 1) (by omega) lf
        have z := lf.f34
        rw [neg_f hs.1 z, Option.bind_some, M_puts_f z, Option.bind_some]
        exact Or.inl ⟨SXf, B3, x1, rfl, x2⟩
      · rcases ih (36 :: W) O (kn + 1) op (i + 1) a1 e1 A3 B3 hp (by omega) lj (by show rk 36 < 4; decide) (by omega) with ⟨SXf, SM1, x1, x2, x3⟩ | ⟨D2, c2, i2, a2, e2, kn2, Ox2, SX2, SM2, x1, x2, x3, x4, x5, x6, x7, x8, x9⟩
        · rw [x1, x2, Option.bind_some, M_puts_f x3.f34, Option.bind_some]
          exact Or.inl ⟨SXf, SM1, rfl, rfl, x3⟩
        · obtain ⟨B, y1, y2, y3⟩ := lj_bin (k := 36) (w := 260) x3 x4 (fun d hd => by have := x5 d hd; omega) (by decide) (by decide) (okS (by decide))
          rw [x1, x2, Option.bind_some, y1, Option.bind_some]
          rw [List.append_assoc] at y3
          have y2' : LJ t n bt u L b a2 e2 ((D2 ++ [36]) ++ W) Ox2 (O ++ (c2 ++ [-36])) kn2 op S0 R0 SX2 B := by rw [← List.append_assoc O]; exact y2
          exact Or.inr ⟨D2 ++ [36], c2 ++ [-36], i2, a2, e2, kn2, Ox2, SX2, B, rfl, rfl, y2', y3, fun d hd => by
            rcases List.mem_append.mp hd with w | w
            · exact x5 d w
            · have : d = 36 := by simpa using w
              rw [this]; decide, x6, ⟨by omega, by rw [List.length_append]; show kn2 = kn + (c2.length + 1); omega⟩, HG_not x8, NTn_app x9⟩
    · rw [decide_eq_false (show ¬ gI SX 48 5 = nI (20 + 16) from c), if_pos (show b2i false = 0 by decide)]
      rcases hs.2 W O kn op i a e SX SM hp h (by omega) hi (fun q => absurd q c) with ⟨SXf, SM1, x1, x2, x3⟩ | ⟨D, c1, i1, a1, e1, kn1, Ox, SX1, SM1, x1, x2, x3, x4, x5, x6, x7, x8, x9⟩
      · have x2' : fX11_sum Rc 0 SM = some SM1 := x2
        rw [x1, x2', Option.bind_some, if_neg x3.f34]
        exact Or.inl ⟨SXf, SM1, rfl, rfl, x3⟩
      · have x2' : fX11_sum Rc 0 SM = some SM1 := x2
        have pos1 := x3.pos
        rw [x1, x2', Option.bind_some, if_pos x3.jo.2.2.2.1, cmp_dec x3.tk]
        by_cases r4 : rk (gI SX1 48 5) = 4
        · obtain ⟨v1, v2, v3, v4, v5⟩ := cmp_val x3.tk r4
          obtain ⟨A3, B1, B3, s1, s2, s3, s4⟩ := lj_ts4 x3 x4 r4 x5 hW
          have ae := pos1.2.2 v5
          rw [if_pos r4]
          unfold fX11_negation_87
          rw [s2, Option.bind_some, s3, Option.bind_some, rn_sign (by omega) x3.jo.2.2.1 (by omega) v4, s1, Option.bind_some]
          rcases s4 with lf | ⟨a2, e2, lj, ea⟩
          · obtain ⟨SXf, y1, y2⟩ := lf_rn (i := i1 + 1) (d := 1) (by omega) lf
            have z := lf.f34
            have z' : fX11_sum Rc 0 B3 = some B3 := hs.1 B3 z
            rw [z', Option.bind_some, M_puts_f z, Option.bind_some]
            exact Or.inl ⟨SXf, B3, y1, rfl, y2⟩
          · rcases hs.2 (gI SX1 48 5 :: W) (O ++ c1) (kn1 + 1) op (i1 + 1) a2 e2 A3 B3 hp lj (by show rk (gI SX1 48 5) < 5; omega) (by omega) (fun _ => by show 4 ≤ rk (gI SX1 48 5); omega) with ⟨SXf, SM2, y1, y2, y3⟩ | ⟨D2, c2, i2, a3, e3, kn2, Ox2, SX2, SM2, y1, y2, y3, y4, y5, y6, y7, y8, y9⟩
            · have y2' : fX11_sum Rc 0 B3 = some SM2 := y2
              rw [y1, y2', Option.bind_some, M_puts_f y3.f34, Option.bind_some]
              exact Or.inl ⟨SXf, SM2, rfl, rfl, y3⟩
            · have y2' : fX11_sum Rc 0 B3 = some SM2 := y2
              obtain ⟨B, w1, w2, w3⟩ := lj_bin (k := gI SX1 48 5) y3 y4 (fun d hd => by have := y5 d hd; omega) (by omega) v2 v3
              rw [y1, y2', Option.bind_some, w1, Option.bind_some]
              have ec : O ++ c1 ++ c2 ++ [-(gI SX1 48 5)] = O ++ (c1 ++ (c2 ++ [-(gI SX1 48 5)])) := by rw [List.append_assoc, List.append_assoc]
              rw [ec] at w2 w3
              refine Or.inr ⟨D2 ++ [gI SX1 48 5], c1 ++ (c2 ++ [-(gI SX1 48 5)]), i2, a3, e3, kn2, Ox2, SX2, B, rfl, rfl, w2, w3, fun d hd => ?_, y6, ⟨by omega, by rw [List.length_append, List.length_append]; show kn2 = kn + (c1.length + (c2.length + 1)); omega⟩, HG_bin x8 y8 v1, ?_⟩
              · rcases List.mem_append.mp hd with w | w
                · have := y5 d w; omega
                · have : d = gI SX1 48 5 := by simpa using w
                  rw [this]; omega
              · have y9' : rk (gI SX2 48 5) ≤ 4 := y9
                by_cases r3 : rk (gI SX2 48 5) ≤ 3
                · exact Or.inl r3
                · exact Or.inr ⟨by omega, cmpT_mk D2 _ y5 r4⟩
        · rw [if_neg r4]
          have x9' : rk (gI SX1 48 5) ≤ 4 := x9
          exact Or.inr ⟨D, c1, i1, a1, e1, kn1, Ox, SX1, SM1, rfl, rfl, x3, x4, fun d hd => by have := x5 d hd; omega, x6, x7, x8, Or.inl (by omega)⟩
end LJ
