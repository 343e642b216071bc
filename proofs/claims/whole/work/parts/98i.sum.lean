/-! ===== a law's line: products and sums ===== -/
section LJ
variable {t n u L b : Nat} {bt : Nat → Nat} {S0 R0 : MS}
theorem lv_comb {g : MS → Option MS} {lp : Nat → MS → Option MS} {r tp : Nat} {iso : Int32 → Bool} {wv : Int32 → Int32} {NTi NTo : List Int32 → Nat → Prop} {P : Nat → Nat → Prop} {Q : Int32 → Nat → Prop}
    (hg : LV t n bt u L b S0 R0 g (r + 1) tp NTi P Q) (hQ : ∀ x, Q x r) (hP : ∀ o k k', P o k → P o k')
    (i1 : ∀ k, iso k = true → rk k = r ∧ isBin k = true ∧ k ≠ 36 ∧ enK 2 (wv k) = -k ∧ okK 2 (wv k)) (r1 : 1 ≤ r) (r4 : r ≠ 4) (rt : r < tp)
    (hyes : ∀ (W Ox Om : List Int32) (kn op a e m : Nat) (SX SM : MS), LJ t n bt u L b a e W Ox Om kn op S0 R0 SX SM → iso (gI SX 48 5) = true → lp (m + 1) SM = (fX11_knot 0 SM).bind fun q1 => (fX11_goOn 0 q1).bind fun q3 => (g q3).bind fun q5 => (fX11_puts 0 2 (wv (gI SX 48 5)) q5).bind fun q7 => lp m q7)
    (hno : ∀ (W Ox Om : List Int32) (kn op a e m : Nat) (SX SM : MS), LJ t n bt u L b a e W Ox Om kn op S0 R0 SX SM → iso (gI SX 48 5) = false → lp (m + 1) SM = some SM)
    (hf : ∀ m S, gI S 0 34 ≠ 0 → lp (m + 1) S = some S)
    (nto : ∀ D k, iso k = false → NTi D (rk k) → NTo D (rk k)) (ntm : ∀ D k x, NTi D x → NTi (D ++ [k]) x) :
    LV t n bt u L b S0 R0 (fun S => (g S).bind fun q => lp 1000 q) r r NTo P Q := by
  refine ⟨fun S h => ?_, ?_⟩
  · show (g S).bind _ = some S
    rw [hg.1 S h, Option.bind_some, hf 999 S h]
  · intro W O kn op i a e SX SM hp h hW hi hq
    show OUT t n bt u L b S0 R0 (rn 1 i SX) ((g SM).bind fun q => lp 1000 q) r NTo W O op a kn
    rcases hg.2 W O kn op i a e SX SM hp h (by omega) hi hq with ⟨SXf, SM1, x1, x2, x3⟩ | ⟨D2, c2, i2, a2, e2, kn2, Ox2, SX2, SM2, x1, x2, x3, x4, x5, x6, x7, x8, x9⟩
    · rw [x1, x2, Option.bind_some, hf 999 _ x3.f34]
      exact Or.inl ⟨SXf, SM1, rfl, rfl, x3⟩
    · rw [x1, x2, Option.bind_some]
      have res := lv_loop hg hQ hP i1 r1 r4 rt hyes hno hf nto ntm 1000 D2 c2 W O Ox2 kn2 op i2 a2 e2 kn SX2 SM2 (by omega) x7.2 (hP _ _ _ hp) x3 x4 (fun d hd => by have := x5 d hd; omega) hW x6 x8 x9
      rcases res with w | ⟨D3, c3, i3, a3, e3, kn3, Ox3, SX3, SM3, w1, w2, w3, w4, w5, w6, w7, w8⟩
      · exact Or.inl w
      · exact Or.inr ⟨D3, c3, i3, a3, e3, kn3, Ox3, SX3, SM3, w1, w2, w3, w4, w5, w6, ⟨by omega, w7.2⟩, w8⟩
theorem rk6 {k : Int32} (h : ¬ (k = 9 ∨ k = 10)) : rk k ≠ 6 := by
  unfold rk
  have h9 : ¬ k = 9 := fun q => h (Or.inl q)
  have h10 : ¬ k = 10 := fun q => h (Or.inr q)
  rw [if_neg h9, if_neg h10]
  repeat (split; decide)
  decide
theorem rk5 {k : Int32} (h : ¬ (k = 7 ∨ k = 8)) : rk k ≠ 5 := by
  unfold rk
  have h9 : ¬ k = 7 := fun q => h (Or.inl q)
  have h10 : ¬ k = 8 := fun q => h (Or.inr q)
  rw [if_neg h9, if_neg h10]
  repeat (split; decide)
  decide
def isoP (k : Int32) : Bool := decide (k = 9 ∨ k = 10)
def wvP (k : Int32) : Int32 := if k = 9 then 42 else 47
def isoS (k : Int32) : Bool := decide (k = 7 ∨ k = 8)
def wvS (k : Int32) : Int32 := if k = 7 then 43 else 45
def NTp (_ : List Int32) (r : Nat) : Prop := r ≤ 5
def NTs (_ : List Int32) (r : Nat) : Prop := r ≤ 4
theorem okS {w : Int32} (h : w ∈ sgL) : okK 2 w := Or.inr (Or.inr ⟨rfl, h⟩)
theorem prod_s {Rc : Nat → MS → Option MS} {m : Nat} {S : MS} : fX11_product_4 Rc (m + 1) 0 S = (fX11_isSign 0 42 S).bind fun q9 => (if q9 = 0 then (fX11_isSign 0 47 S).bind fun q12 => (if q12 = 0 then some S else fX11_product_22 Rc (fX11_product_4 Rc m) 0 S) else fX11_product_22 Rc (fX11_product_4 Rc m) 0 S) := rfl
theorem sum_s {Rc : Nat → MS → Option MS} {m : Nat} {S : MS} : fX11_sum_4 Rc (m + 1) 0 S = (fX11_isSign 0 43 S).bind fun q9 => (if q9 = 0 then (fX11_isSign 0 45 S).bind fun q12 => (if q12 = 0 then some S else fX11_sum_22 Rc (fX11_sum_4 Rc m) 0 S) else fX11_sum_22 Rc (fX11_sum_4 Rc m) 0 S) := rfl
theorem lv_prod {Rc : Nat → MS → Option MS} {P : Nat → Nat → Prop} (hP : ∀ o k k', P o k → P o k') (hg : LV t n bt u L b S0 R0 (fun S => fX11_primary Rc 0 S) 7 7 NT7 P Qn) : LV t n bt u L b S0 R0 (fun S => fX11_product Rc 0 S) 6 6 NTp P Qn := by
  refine lv_comb (lp := fun m S => fX11_product_4 Rc m 0 S) (iso := isoP) (wv := wvP) hg (fun x _ => by decide) hP (fun k hk => ?_) (by decide) (by decide) (by decide) (fun W Ox Om kn op a e m SX SM h hk => ?_) (fun W Ox Om kn op a e m SX SM h hk => ?_) (fun m S h => ?_) (fun D k hk _ => ?_) (fun D k x h => True.intro)
  · rcases of_decide_eq_true hk with q | q <;> (rw [q]; exact ⟨by decide, by decide, by decide, by decide, okS (by decide)⟩)
  · show fX11_product_4 Rc (m + 1) 0 SM = _
    have s1 : fX11_isSign 0 (42 : Int32) SM = _ := lj_sign (c := 9) h (by decide) (by decide)
    have s2 : fX11_isSign 0 (47 : Int32) SM = _ := lj_sign (c := 10) h (by decide) (by decide)
    rw [prod_s, s1, Option.bind_some, s2, Option.bind_some]
    rcases of_decide_eq_true hk with q | q
    · have v := ((h.tk.sgn (c := 9) (by decide) (by decide)).mp q).2
      rw [decide_eq_true (show gI SX 48 5 = nI 9 from q), if_neg (show ¬ b2i true = 0 by decide)]
      unfold fX11_product_22
      rw [v, q]
      rfl
    · have v := ((h.tk.sgn (c := 10) (by decide) (by decide)).mp q).2
      rw [decide_eq_false (show ¬ gI SX 48 5 = nI 9 by rw [q]; decide), if_pos (show b2i false = 0 by decide), decide_eq_true (show gI SX 48 5 = nI 10 from q), if_neg (show ¬ b2i true = 0 by decide)]
      unfold fX11_product_22
      rw [v, q]
      rfl
  · show fX11_product_4 Rc (m + 1) 0 SM = _
    have nk := of_decide_eq_false hk
    have s1 : fX11_isSign 0 (42 : Int32) SM = _ := lj_sign (c := 9) h (by decide) (by decide)
    have s2 : fX11_isSign 0 (47 : Int32) SM = _ := lj_sign (c := 10) h (by decide) (by decide)
    unfold fX11_product_4
    rw [s1, Option.bind_some, s2, Option.bind_some, decide_eq_false (show ¬ gI SX 48 5 = nI 9 from fun q => nk (Or.inl q)), decide_eq_false (show ¬ gI SX 48 5 = nI 10 from fun q => nk (Or.inr q)), if_pos (show b2i false = 0 by decide), if_pos (show b2i false = 0 by decide)]
  · show fX11_product_4 Rc (m + 1) 0 S = some S
    unfold fX11_product_4
    rw [M_sign_f h, Option.bind_some, if_pos rfl, M_sign_f h, Option.bind_some, if_pos rfl]
  · have := rk6 (of_decide_eq_false hk)
    have := rk_le (k := k)
    show rk k ≤ 5
    omega
theorem lv_sum {Rc : Nat → MS → Option MS} {P : Nat → Nat → Prop} (hP : ∀ o k k', P o k → P o k') (hg : LV t n bt u L b S0 R0 (fun S => fX11_product Rc 0 S) 6 6 NTp P Qn) : LV t n bt u L b S0 R0 (fun S => fX11_sum Rc 0 S) 5 5 NTs P Qn := by
  refine lv_comb (lp := fun m S => fX11_sum_4 Rc m 0 S) (iso := isoS) (wv := wvS) hg (fun x _ => by decide) hP (fun k hk => ?_) (by decide) (by decide) (by decide) (fun W Ox Om kn op a e m SX SM h hk => ?_) (fun W Ox Om kn op a e m SX SM h hk => ?_) (fun m S h => ?_) (fun D k hk hr => ?_) (fun D k x h => h)
  · rcases of_decide_eq_true hk with q | q <;> (rw [q]; exact ⟨by decide, by decide, by decide, by decide, okS (by decide)⟩)
  · show fX11_sum_4 Rc (m + 1) 0 SM = _
    have s1 : fX11_isSign 0 (43 : Int32) SM = _ := lj_sign (c := 7) h (by decide) (by decide)
    have s2 : fX11_isSign 0 (45 : Int32) SM = _ := lj_sign (c := 8) h (by decide) (by decide)
    rw [sum_s, s1, Option.bind_some, s2, Option.bind_some]
    rcases of_decide_eq_true hk with q | q
    · have v := ((h.tk.sgn (c := 7) (by decide) (by decide)).mp q).2
      rw [decide_eq_true (show gI SX 48 5 = nI 7 from q), if_neg (show ¬ b2i true = 0 by decide)]
      unfold fX11_sum_22
      rw [v, q]
      rfl
    · have v := ((h.tk.sgn (c := 8) (by decide) (by decide)).mp q).2
      rw [decide_eq_false (show ¬ gI SX 48 5 = nI 7 by rw [q]; decide), if_pos (show b2i false = 0 by decide), decide_eq_true (show gI SX 48 5 = nI 8 from q), if_neg (show ¬ b2i true = 0 by decide)]
      unfold fX11_sum_22
      rw [v, q]
      rfl
  · show fX11_sum_4 Rc (m + 1) 0 SM = _
    have nk := of_decide_eq_false hk
    have s1 : fX11_isSign 0 (43 : Int32) SM = _ := lj_sign (c := 7) h (by decide) (by decide)
    have s2 : fX11_isSign 0 (45 : Int32) SM = _ := lj_sign (c := 8) h (by decide) (by decide)
    unfold fX11_sum_4
    rw [s1, Option.bind_some, s2, Option.bind_some, decide_eq_false (show ¬ gI SX 48 5 = nI 7 from fun q => nk (Or.inl q)), decide_eq_false (show ¬ gI SX 48 5 = nI 8 from fun q => nk (Or.inr q)), if_pos (show b2i false = 0 by decide), if_pos (show b2i false = 0 by decide)]
  · show fX11_sum_4 Rc (m + 1) 0 S = some S
    unfold fX11_sum_4
    rw [M_sign_f h, Option.bind_some, if_pos rfl, M_sign_f h, Option.bind_some, if_pos rfl]
  · have := rk5 (of_decide_eq_false hk)
    have h5 : rk k ≤ 5 := hr
    show rk k ≤ 4
    omega
end LJ
