/-! ===== a law's line: and, or, the whole of it ===== -/
theorem rk2 {k : Int32} (h : ¬ k = 35) : rk k ≠ 2 := by
  unfold rk
  rw [if_neg h]
  repeat (split; decide)
  decide
theorem rk1 {k : Int32} (h : ¬ k = 34) : rk k ≠ 1 := by
  unfold rk
  rw [if_neg h]
  repeat (split; decide)
  decide
def isoA (k : Int32) : Bool := decide (k = 35)
def isoO (k : Int32) : Bool := decide (k = 34)
def Qt (_ : Int32) (_ : Nat) : Prop := True
section LJ
variable {t n u L b : Nat} {bt : Nat → Nat} {S0 R0 : MS}
theorem conj_s {Rc : Nat → MS → Option MS} {m : Nat} {S : MS} : fX11_conjunction_4 Rc (m + 1) 0 S = (fX11_isWord 0 15 S).bind fun q1 => (if q1 = 0 then some S else (fX11_knot 0 S).bind fun q4 => (fX11_goOn 0 q4).bind fun q6 => (fX11_negation Rc 0 q6).bind fun q8 => (fX11_puts 0 2 261 q8).bind fun q10 => fX11_conjunction_4 Rc m 0 q10) := rfl
theorem expr_s {Rc : Nat → MS → Option MS} {m : Nat} {S : MS} : fX11_expression_4 Rc (m + 1) 0 S = (fX11_isWord 0 14 S).bind fun q1 => (if q1 = 0 then some S else (fX11_knot 0 S).bind fun q4 => (fX11_goOn 0 q4).bind fun q6 => (fX11_conjunction Rc 0 q6).bind fun q8 => (fX11_puts 0 2 262 q8).bind fun q10 => fX11_expression_4 Rc m 0 q10) := rfl
theorem lv_conj {Rc : Nat → MS → Option MS} {Pe : Nat → Prop} (hs : LV t n bt u L b S0 R0 (fun S => fX11_sum Rc 0 S) 5 5 NTs (fun op _ => Pe op) Qn) : LV t n bt u L b S0 R0 (fun S => fX11_conjunction Rc 0 S) 2 2 NTc (fun op _ => Pe op) Qt := by
  have hg : LV t n bt u L b S0 R0 (fun S => fX11_negation Rc 0 S) (2 + 1) 4 NTn (fun op _ => Pe op) Qt := ⟨fun S h => neg_f (m := 79) hs.1 h, fun W O kn op i a e SX SM hp h hW hi _ => lv_neg hs 80 W O kn op i a e SX SM hp (by omega) h hW hi⟩
  refine lv_comb (lp := fun m S => fX11_conjunction_4 Rc m 0 S) (iso := isoA) (wv := fun _ => 261) hg (fun x => True.intro) (fun _ _ _ h => h) (fun k hk => ?_) (by decide) (by decide) (by decide) (fun W Ox Om kn op a e m SX SM h hk => ?_) (fun W Ox Om kn op a e m SX SM h hk => ?_) (fun m S h => ?_) (fun D k hk hr => ?_) (fun D k x h => NTn_app h)
  · rw [of_decide_eq_true hk]; exact ⟨by decide, by decide, by decide, by decide, okS (by decide)⟩
  · have w1 : fX11_isWord 0 (15 : Int32) SM = _ := lj_word (j := 15) h (by decide)
    show fX11_conjunction_4 Rc (m + 1) 0 SM = _
    rw [conj_s, w1, Option.bind_some, decide_eq_true (show gI SX 48 5 = nI (20 + 15) from of_decide_eq_true hk), if_neg (show ¬ b2i true = 0 by decide)]
  · have w1 : fX11_isWord 0 (15 : Int32) SM = _ := lj_word (j := 15) h (by decide)
    show fX11_conjunction_4 Rc (m + 1) 0 SM = _
    rw [conj_s, w1, Option.bind_some, decide_eq_false (show ¬ gI SX 48 5 = nI (20 + 15) from of_decide_eq_false hk), if_pos (show b2i false = 0 by decide)]
  · show fX11_conjunction_4 Rc (m + 1) 0 S = some S
    rw [conj_s, M_word_f h, Option.bind_some, if_pos rfl]
  · have := rk2 (of_decide_eq_false hk)
    rcases hr with q | q
    · exact Or.inl ⟨q, this⟩
    · exact Or.inr q
theorem lv_expr {Rc : Nat → MS → Option MS} {Pe : Nat → Prop} (hg : LV t n bt u L b S0 R0 (fun S => fX11_conjunction Rc 0 S) 2 2 NTc (fun op _ => Pe op) Qt) : LV t n bt u L b S0 R0 (fun S => fX11_expression_B Rc 0 S) 1 1 NTe (fun op _ => Pe op) Qt := by
  refine lv_comb (lp := fun m S => fX11_expression_4 Rc m 0 S) (iso := isoO) (wv := fun _ => 262) hg (fun x => True.intro) (fun _ _ _ h => h) (fun k hk => ?_) (by decide) (by decide) (by decide) (fun W Ox Om kn op a e m SX SM h hk => ?_) (fun W Ox Om kn op a e m SX SM h hk => ?_) (fun m S h => ?_) (fun D k hk hr => ?_) (fun D k x h => NTc_app h)
  · rw [of_decide_eq_true hk]; exact ⟨by decide, by decide, by decide, by decide, okS (by decide)⟩
  · have w1 : fX11_isWord 0 (14 : Int32) SM = _ := lj_word (j := 14) h (by decide)
    show fX11_expression_4 Rc (m + 1) 0 SM = _
    rw [expr_s, w1, Option.bind_some, decide_eq_true (show gI SX 48 5 = nI (20 + 14) from of_decide_eq_true hk), if_neg (show ¬ b2i true = 0 by decide)]
  · have w1 : fX11_isWord 0 (14 : Int32) SM = _ := lj_word (j := 14) h (by decide)
    show fX11_expression_4 Rc (m + 1) 0 SM = _
    rw [expr_s, w1, Option.bind_some, decide_eq_false (show ¬ gI SX 48 5 = nI (20 + 14) from of_decide_eq_false hk), if_pos (show b2i false = 0 by decide)]
  · show fX11_expression_4 Rc (m + 1) 0 S = some S
    rw [expr_s, M_word_f h, Option.bind_some, if_pos rfl]
  · have := rk1 (of_decide_eq_false hk)
    rcases hr with q | q
    · by_cases z : rk k = 0
      · exact Or.inl z
      · exact Or.inr (Or.inl (by omega))
    · exact Or.inr (Or.inr q)
theorem expr_all : ∀ (m : Nat) (W O : List Int32) (kn op i a e : Nat) (SX SM : MS), 9 ≤ op + m → LJ t n bt u L b a e W O O kn op S0 R0 SX SM → rk (topK W) < 1 → i + 1 ≤ a → OUT t n bt u L b S0 R0 (rn 1 i SX) (fX11_exprN m 0 SM) 1 NTe W O op a kn := by
  intro m
  induction m with
  | zero =>
    intro W O kn op i a e SX SM hm h
    have := h.p8
    omega
  | succ m ih =>
    intro W O kn op i a e SX SM hm h hW hi
    exact (lv_expr (lv_conj (lv_sum (fun _ _ _ h => h) (lv_prod (fun _ _ _ h => h) (lv_prim ih))))).2 W O kn op i a e SX SM (by omega) h hW hi True.intro
/-- the whole of a law's line behind its words -/
theorem law_expr {a e kn : Nat} {SX SM : MS} (h : LJ t n bt u L b a e [] [] [] kn 0 S0 R0 SX SM) (ha : 1 ≤ a) :
    (∃ SXf SM1, rn 1 0 SX = some SXf ∧ fX11_expression 0 SM = some SM1 ∧ LE t n bt u L b S0 R0 SXf SM1) ∨
    (∃ O a1 e1 kn1 SX1 SM1, rn 1 0 SX = some SX1 ∧ fX11_expression 0 SM = some SM1 ∧ LJ t n bt u L b a1 e1 [] O O kn1 0 S0 R0 SX1 SM1 ∧ HG O ∧ kn1 = kn + O.length) ∨
    (∃ SXf SM1 B, rn 1 0 SX = some SXf ∧ fX11_expression 0 SM = some SM1 ∧ gI SM1 0 34 = 0 ∧ (gI SM1 0 32 = 3 → gI SM1 0 33 ≠ 59) ∧ fX11_wrong 0 1 SM1 = some B ∧ LE t n bt u L b S0 R0 SXf B) := by
  rcases expr_all 12 [] [] kn 0 0 a e SX SM (by decide) h (by decide) (by omega) with ⟨SXf, SM1, x1, x2, x3⟩ | ⟨D, c, i1, a1, e1, kn1, Ox, SX1, SM1, x1, x2, x3, x4, x5, x6, x7, x8, x9⟩
  · exact Or.inl ⟨SXf, SM1, x1, x2, x3⟩
  · have pos := x3.pos
    have h12 : gI SX1 48 12 = 0 := x3.xp
    have stop : (rk (gI SX1 48 5) = 0 ∨ gI SX1 48 5 = 36) → ∃ O a1 e1 kn1 SX2 SM2, rn 1 0 SX = some SX2 ∧ fX11_expression 0 SM = some SM2 ∧ LJ t n bt u L b a1 e1 [] O O kn1 0 S0 R0 SX2 SM2 ∧ HG O ∧ kn1 = kn + O.length := fun hs => by
      obtain ⟨A, r1, r2⟩ := lj_rel (r := 1) x3 x4 (by decide) (by decide) x5 (by decide)
      have r1' : fX5_release 48 1 SX1 = some A := r1
      refine ⟨c, a1, e1, kn1, A, SM1, ?_, x2, r2, x8, x7.2⟩
      rw [x1, rn_stop (by omega) x3.jo.2.2.1 (fun _ => by rw [h12]; decide) hs]
      unfold fX5_readE_94
      rw [r1', Option.bind_some, r2.xp, if_pos (show nI 0 ≤ 0 by decide)]
    rcases x9 with q | q | q
    · exact Or.inr (Or.inl (stop (Or.inl q)))
    · exact Or.inr (Or.inl (stop (Or.inr (rk3 q))))
    · obtain ⟨A, B, c1, c2, c3⟩ := lj_ts4f x3 x5 q.2 q.1
      have n36 : gI SX1 48 5 ≠ 36 := fun z => by have := q.1; rw [z] at this; exact absurd this (by decide)
      obtain ⟨SXf, y1, y2⟩ := lf_rn (i := i1 + 1) (d := 1) (by omega) c3
      refine Or.inr (Or.inr ⟨SXf, SM1, B, ?_, x2, x3.jo.2.2.2.1, fun s3 s59 => ?_, c2, y2⟩)
      · rw [x1, rn_sign (by omega) x3.jo.2.2.1 (by omega) n36, c1, Option.bind_some]; exact y1
      · have := (x3.tk.sgn (c := 4) (by decide) (by decide)).mpr ⟨s3, s59⟩
        have q1 := q.1
        rw [this] at q1
        exact absurd q1 (by decide)
end LJ
