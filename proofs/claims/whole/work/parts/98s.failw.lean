/-! ===== a line that fails at its word ===== -/
theorem line_fail {t n u a e : Nat} {bt : Nat → Nat} {f : Int32} {SX SM : MS} {T R : MS → Option MS} (h : JO t n bt a e SX SM) (hu : isT u) (hd : XD u SX) (hf : f ≠ 0)
    (X : fX5_readLine 48 SX = (fX5_fail 48 f (gI SX 48 7) SX).bind T) (hT : ∀ f w S, GX t n bt f w u SX S → ∃ S1, T S = some S1 ∧ GX t n bt f w u SX S1)
    (M : fX11_line 0 SM = (fX11_wrong 0 f SM).bind R) (hR : ∀ B, gI B 0 34 ≠ 0 → R B = some B) :
    ∃ SX1 SM1, fX5_readLine 48 SX = some SX1 ∧ fX11_line 0 SM = some SM1 ∧ JF t n bt SX1 SM1 ∧ Fr (PD u) SX SX1 ∧ Fr NN SM SM1 := by
  obtain ⟨A, B, c1, c2, c3, c4, c5⟩ := j_fail h hf
  obtain ⟨g, w, x, m, z, p⟩ := c3
  have gx : GX t n bt g w u SX A := ⟨hu, x, hd.fy hu c4, c4.mo NY_PD⟩
  obtain ⟨S1, d1, d2⟩ := hT g w A gx
  refine ⟨S1, B, ?_, ?_, ⟨g, w, d2.2.1, m, z, p⟩, d2.2.2.2, c5⟩
  · rw [X, c1, Option.bind_some, d1]
  · rw [M, c2, Option.bind_some, hR B (by rw [z]; exact x.2.2.1)]
theorem line_none {t n u a e : Nat} {bt : Nat → Nat} {SX SM : MS} (h : JO t n bt a e SX SM) (hu : isT u) (hd : XD u SX) (hx : ∀ w, w < 11 → gI SX 48 5 ≠ nI (20 + w)) (hm : ¬ gI SM 0 32 = 0 ∨ (gI SM 0 32 = 0 ∧ 10 < gI SM 0 33)) :
    ∃ SX1 SM1, fX5_readLine 48 SX = some SX1 ∧ fX11_line 0 SM = some SM1 ∧ JF t n bt SX1 SM1 ∧ Fr (PD u) SX SX1 ∧ Fr NN SM SM1 :=
  line_fail h hu hd (show (1 : Int32) ≠ 0 by decide) (X_line_no hx) (fun _ _ _ g => F_end g) (M_line_no hm) (fun _ _ => rfl)
theorem G_then {t n u : Nat} {bt : Nat → Nat} {f w : Int32} {S0 S : MS} {P Q : MS → Option MS} (h : GX t n bt f w u S0 S) (hP : ∀ S, GX t n bt f w u S0 S → ∃ S1, P S = some S1 ∧ GX t n bt f w u S0 S1) (hQ : ∀ S, GX t n bt f w u S0 S → ∃ S1, Q S = some S1 ∧ GX t n bt f w u S0 S1) : ∃ S1, (P S).bind Q = some S1 ∧ GX t n bt f w u S0 S1 := by
  obtain ⟨S1, a1, a2⟩ := hP S h
  rw [a1, Option.bind_some]
  exact hQ S1 a2
theorem line_late0 {t n u a e : Nat} {bt : Nat → Nat} {SX SM : MS} (h : JO t n bt a e SX SM) (hu : isT u) (hd : XD u SX) (hk : gI SX 48 5 = 20) (hx : ¬ gI SX 48 18 ≤ 0) (hm : 0 < gI SM 0 28) :
    ∃ SX1 SM1, fX5_readLine 48 SX = some SX1 ∧ fX11_line 0 SM = some SM1 ∧ JF t n bt SX1 SM1 ∧ Fr (PD u) SX SX1 ∧ Fr NN SM SM1 := by
  obtain ⟨q1, q2⟩ := (h.2.2.2.2.2.2.2.2.2.2.wrd (j := 0) (by decide)).mp hk
  refine line_fail (T := fun q => (fX5_readRoom_16 48 q).bind fun q => fX5_readLine_150 48 q) h hu hd (show (1 : Int32) ≠ 0 by decide) ?_ (fun _ _ _ g => G_then g (fun _ g => F_room g) (fun _ g => F_end g)) (M_line_late h.2.1.1 q1 q2 (Or.inl ⟨rfl, hm⟩)) (fun _ _ => rfl)
  rw [X_line_0 hk]
  unfold fX5_readRoom
  rw [if_neg hx]
  cases fX5_fail 48 1 (gI SX 48 7) SX <;> rfl
theorem line_late1 {t n u a e : Nat} {bt : Nat → Nat} {SX SM : MS} (h : JO t n bt a e SX SM) (hu : isT u) (hd : XD u SX) (hk : gI SX 48 5 = 21) (hx : ¬ gI SX u 12 ≤ 0) (hm : ¬ gI SM 2 17 ≤ 0) :
    ∃ SX1 SM1, fX5_readLine 48 SX = some SX1 ∧ fX11_line 0 SM = some SM1 ∧ JF t n bt SX1 SM1 ∧ Fr (PD u) SX SX1 ∧ Fr NN SM SM1 := by
  obtain ⟨q1, q2⟩ := (h.2.2.2.2.2.2.2.2.2.2.wrd (j := 1) (by decide)).mp hk
  refine line_fail (T := fun q => (fX5_readHer_19 48 q).bind fun q => fX5_readLine_150 48 q) h hu hd (show (1 : Int32) ≠ 0 by decide) ?_ (fun _ _ _ g => G_then g (fun _ g => G_then g (fun _ g => G_once g) (fun _ g => F_her g)) (fun _ g => F_end g)) (M_line_late h.2.1.1 q1 q2 (Or.inr ⟨rfl, hm⟩)) (fun _ _ => rfl)
  rw [X_line_1 hk]
  unfold fX5_readHer
  rw [hd.1, if_neg hx]
  cases fX5_fail 48 1 (gI SX 48 7) SX <;> rfl
