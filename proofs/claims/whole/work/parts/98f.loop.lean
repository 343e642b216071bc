/-! ===== a law's line: a sign between two parts, and a row of them ===== -/
section LJ
variable {t n u L b a e kn op : Nat} {bt : Nat → Nat} {W Ox Om : List Int32} {S0 R0 SX SM : MS}
theorem LJ.pos (h : LJ t n bt u L b a e W Ox Om kn op S0 R0 SX SM) : a ≤ n ∧ n ≤ 700 ∧ (gI SX 48 5 ≠ 0 → a < e) := by
  have h1 := h.jo.2.2.2.2
  have h2 := h1.2.2.2.2.1.1
  have h3 := h.jo.2.1.2.2.1
  rcases h1.2.2.2.2.2.1 with ⟨q1, q2, q3⟩ | ⟨q1, q2⟩
  · exact ⟨by omega, h3, fun q => absurd q1 q⟩
  · exact ⟨by omega, h3, fun _ => q2⟩
theorem X_ts59 {A3 : MS} {k : Int32} (hk : gI SX 48 5 = k) {A1 A2 : MS} (h1 : fX5_hold 48 k SX = some A1) (h2 : fX5_countKnot 48 A1 = some A2) (h3 : fX5_next 48 A2 = some A3) : fX5_takeSign_59 48 SX = some A3 := by
  unfold fX5_takeSign_59
  rw [hk, h1, Option.bind_some, h2, Option.bind_some, h3, Option.bind_some]
/-- a sign that is no comparison -/
theorem lj_ts {r : Nat} {D : List Int32} {k : Int32} (h : LJ t n bt u L b a e (D ++ W) Ox Om kn op S0 R0 SX SM) (ho : Om = Ox ++ D.map (fun d => -d)) (hk : gI SX 48 5 = k) (hr : rk k = r) (h1 : 1 ≤ r) (h4 : r ≠ 4) (hD : ∀ d ∈ D, r ≤ rk d) (hW : rk (topK W) < r) :
    ∃ A3 B1 B3, fX5_takeSign 48 SX = some A3 ∧ fX11_knot 0 SM = some B1 ∧ fX11_goOn 0 B1 = some B3 ∧ (LF t n bt u L b S0 R0 A3 B3 ∨ ∃ a1 e1, LJ t n bt u L b a1 e1 (k :: W) Om Om (kn + 1) op S0 R0 A3 B3 ∧ e ≤ a1) := by
  have hr6 : r ≤ 6 := by rw [← hr]; exact rk_le
  obtain ⟨A, r1, r2⟩ := lj_rel h ho h1 (by omega) hD hW
  have hkA : gI A 48 5 = k := by
    have q := r2.tk
    obtain ⟨A', r1', r2', _, _, r5'⟩ := X_rel h.hu h.hL hW (by omega) hD h.jo.1.1 h.r10 h.xw h.xz (by
      have e1 := h.ct
      have e2 := h.np
      have e3 := nop_app D W (fun d hd => Nat.le_trans h1 (hD d hd))
      have e4 := nop_le W
      have e5 := h.k64
      rw [List.length_append] at e1
      omega)
    have eA : A' = A := Option.some.inj (r1'.symm.trans r1)
    subst eA
    rw [r5'.2 _ _ (fun hp => by have := h.num; unfold RLw at hp; omega)]
    exact hk
  obtain ⟨A1, A2, A3, B1, B3, q1, q2, q3, q4, q5, q6⟩ := lj_hold (k := k) r2 (by omega)
  refine ⟨A3, B1, B3, ?_, q4, q5, q6⟩
  unfold fX5_takeSign fX5_takeSign_18 fX5_takeSign_31
  rw [X_rank, Option.bind_some, hk, hr, if_neg (show ¬ nI r = 4 from fun q => h4 ((nI_eq (show r < 2 ^ 31 by omega) (show (4 : Nat) < 2 ^ 31 by decide)).mp q)), if_pos rfl, r1, Option.bind_some, if_pos rfl]
  exact X_ts59 hkA q1 q2 q3
/-- how high a row of knots piles -/
def HG (c : List Int32) : Prop := ∀ l h, hgt (c ++ l) h = hgt l (h + 1)
def isBin (k : Int32) : Bool := decide (k = 7 ∨ k = 8 ∨ k = 9 ∨ k = 10 ∨ k = 11 ∨ k = 12 ∨ k = 13 ∨ k = 14 ∨ k = 15 ∨ k = 16 ∨ k = 34 ∨ k = 35)
theorem HG_bin {c d : List Int32} {k : Int32} (hc : HG c) (hd : HG d) (hk : isBin k = true) : HG (c ++ (d ++ [-k])) := by
  intro l h
  rw [List.append_assoc, List.append_assoc, hc, hd]
  have key : ¬ (- -k ≤ 0 ∨ (37 ≤ - -k ∧ - -k ≤ 43)) ∧ ¬ - -k = 36 := by
    rcases of_decide_eq_true hk with q | q | q | q | q | q | q | q | q | q | q | q <;> (rw [q]; decide)
  show (if - -k ≤ 0 ∨ (37 ≤ - -k ∧ - -k ≤ 43) then hgt l (h + 1 + 1 + 1) else if - -k = 36 then (if 1 ≤ h + 1 + 1 then hgt l (h + 1 + 1) else none) else (if 2 ≤ h + 1 + 1 then hgt l (h + 1 + 1 - 1) else none)) = hgt l (h + 1)
  rw [if_neg key.1, if_neg key.2, if_pos (show 2 ≤ h + 1 + 1 by omega)]
  rfl
/-- what a part of a law comes to -/
def OUT (t n : Nat) (bt : Nat → Nat) (u L b : Nat) (S0 R0 : MS) (X F : Option MS) (lv : Nat) (NT : List Int32 → Nat → Prop) (W O : List Int32) (op a kn : Nat) : Prop :=
  (∃ SXf SM1, X = some SXf ∧ F = some SM1 ∧ LE t n bt u L b S0 R0 SXf SM1) ∨
  (∃ D c i1 a1 e1 kn1 Ox SX1 SM1, X = rn 0 i1 SX1 ∧ F = some SM1 ∧ LJ t n bt u L b a1 e1 (D ++ W) Ox (O ++ c) kn1 op S0 R0 SX1 SM1 ∧ O ++ c = Ox ++ D.map (fun d => -d) ∧ (∀ d ∈ D, lv ≤ rk d) ∧ i1 + 1 ≤ a1 ∧ (a ≤ a1 ∧ kn1 = kn + c.length) ∧ HG c ∧ NT D (rk (gI SX1 48 5)))
def LV (t n : Nat) (bt : Nat → Nat) (u L b : Nat) (S0 R0 : MS) (f : MS → Option MS) (lv tp : Nat) (NT : List Int32 → Nat → Prop) (P : Nat → Nat → Prop) (Q : Int32 → Nat → Prop) : Prop :=
  (∀ S, gI S 0 34 ≠ 0 → f S = some S) ∧ ∀ (W O : List Int32) (kn op i a e : Nat) (SX SM : MS), P op kn → LJ t n bt u L b a e W O O kn op S0 R0 SX SM → rk (topK W) < tp → i + 1 ≤ a → Q (gI SX 48 5) (rk (topK W)) → OUT t n bt u L b S0 R0 (rn 1 i SX) (f SM) lv NT W O op a kn
theorem LE.f34 {SXf SM1 : MS} (h : LE t n bt u L b S0 R0 SXf SM1) : gI SM1 0 34 ≠ 0 := by
  obtain ⟨⟨f, w, q1, _, q2, _⟩, _⟩ := h
  rw [q2]; exact q1.2.2.1
theorem LF.f34 (h : LF t n bt u L b S0 R0 SX SM) : gI SM 0 34 ≠ 0 := by
  obtain ⟨⟨f, w, q1, _, q2, _⟩, _⟩ := h
  rw [q2]; exact q1.2.2.1
/-- a sign is behind its two sides on the reference's side too -/
theorem lj_bin {D : List Int32} {k w : Int32} (h : LJ t n bt u L b a e (D ++ (k :: W)) Ox Om kn op S0 R0 SX SM) (ho : Om = Ox ++ D.map (fun d => -d)) (hD : ∀ d ∈ D, 1 ≤ rk d) (hk : 1 ≤ rk k) (hv : enK 2 w = -k) (hok : okK 2 w) :
    ∃ B, fX11_puts 0 2 w SM = some B ∧ LJ t n bt u L b a e ((D ++ [k]) ++ W) Ox (Om ++ [-k]) kn op S0 R0 SX B ∧ Om ++ [-k] = Ox ++ (D ++ [k]).map (fun d => -d) := by
  have hk5 : ¬ k = 5 := fun q => by rw [q] at hk; exact absurd hk (by decide)
  have e1 := h.ct
  have e2 := h.np
  have e3 := nop_app D (k :: W) hD
  have e3' : nop (k :: W) = nop W := by show nop W + (if k = 5 then 1 else 0) = nop W; rw [if_neg hk5]; rfl
  have e4 := nop_le W
  have e5 := h.k64
  have e6 : (D ++ (k :: W)).length = D.length + (W.length + 1) := List.length_append
  have e7 : Om.length = Ox.length + D.length := by rw [ho, List.length_append, List.length_map]
  obtain ⟨B, b1, b2⟩ := lj_puts h hv hok (by omega)
  refine ⟨B, b1, ?_, ?_⟩
  · rw [List.append_assoc]; exact b2
  · rw [ho, List.map_append, List.append_assoc]; rfl
/-- a row of parts with one kind of sign between them -/
theorem lv_loop {g : MS → Option MS} {lp : Nat → MS → Option MS} {r tp : Nat} {iso : Int32 → Bool} {wv : Int32 → Int32} {NTi NTo : List Int32 → Nat → Prop} {P : Nat → Nat → Prop} {Q : Int32 → Nat → Prop}
    (hg : LV t n bt u L b S0 R0 g (r + 1) tp NTi P Q) (hQ : ∀ x, Q x r) (hP : ∀ o k k', P o k → P o k')
    (i1 : ∀ k, iso k = true → rk k = r ∧ isBin k = true ∧ k ≠ 36 ∧ enK 2 (wv k) = -k ∧ okK 2 (wv k)) (r1 : 1 ≤ r) (r4 : r ≠ 4) (rt : r < tp)
    (hyes : ∀ (W Ox Om : List Int32) (kn op a e m : Nat) (SX SM : MS), LJ t n bt u L b a e W Ox Om kn op S0 R0 SX SM → iso (gI SX 48 5) = true → lp (m + 1) SM = (fX11_knot 0 SM).bind fun q1 => (fX11_goOn 0 q1).bind fun q3 => (g q3).bind fun q5 => (fX11_puts 0 2 (wv (gI SX 48 5)) q5).bind fun q7 => lp m q7)
    (hno : ∀ (W Ox Om : List Int32) (kn op a e m : Nat) (SX SM : MS), LJ t n bt u L b a e W Ox Om kn op S0 R0 SX SM → iso (gI SX 48 5) = false → lp (m + 1) SM = some SM)
    (hf : ∀ m S, gI S 0 34 ≠ 0 → lp (m + 1) S = some S)
    (nto : ∀ D k, iso k = false → NTi D (rk k) → NTo D (rk k)) (ntm : ∀ D k x, NTi D x → NTi (D ++ [k]) x) :
    ∀ (m : Nat) (D c W O Ox : List Int32) (kn op i a e kn0 : Nat) (SX SM : MS), 702 ≤ m + a → kn = kn0 + c.length → P op kn → LJ t n bt u L b a e (D ++ W) Ox (O ++ c) kn op S0 R0 SX SM → O ++ c = Ox ++ D.map (fun d => -d) → (∀ d ∈ D, r ≤ rk d) → rk (topK W) < r → i + 1 ≤ a → HG c → NTi D (rk (gI SX 48 5)) → OUT t n bt u L b S0 R0 (rn 0 i SX) (lp m SM) r NTo W O op a kn0 := by
  intro m
  induction m with
  | zero =>
    intro D c W O Ox kn op i a e kn0 SX SM hm _ _ h
    have := h.pos
    omega
  | succ m ih =>
    intro D c W O Ox kn op i a e kn0 SX SM hm hcn hp h ho hD hW hi hc hnt
    have pos := h.pos
    cases q : iso (gI SX 48 5) with
    | false =>
      rw [hno _ _ _ _ _ _ _ m _ _ h q]
      exact Or.inr ⟨D, c, i, a, e, kn, Ox, SX, SM, rfl, rfl, h, ho, hD, hi, ⟨Nat.le_refl _, hcn⟩, hc, nto D _ q hnt⟩
    | true =>
      obtain ⟨k1, k2, k3, k4, k5⟩ := i1 _ q
      have k0 : gI SX 48 5 ≠ 0 := fun z => by rw [z] at k2; exact absurd k2 (by decide)
      have ae := pos.2.2 k0
      obtain ⟨A3, B1, B3, s1, s2, s3, s4⟩ := lj_ts h ho rfl k1 r1 r4 hD hW
      rw [hyes _ _ _ _ _ _ _ m _ _ h q, s2, Option.bind_some, s3, Option.bind_some, rn_sign (by omega) h.jo.2.2.1 (by omega) k3, s1, Option.bind_some]
      rcases s4 with lf | ⟨a1, e1, lj, ea⟩
      · obtain ⟨SXf, x1, x2⟩ := lf_rn (i := i + 1) (d := 1) (by omega) lf
        have z := lf.f34
        rw [hg.1 _ z, Option.bind_some, M_puts_f z, Option.bind_some]
        obtain ⟨m', rfl⟩ : ∃ m', m = m' + 1 := ⟨m - 1, by omega⟩
        rw [hf m' _ z]
        exact Or.inl ⟨SXf, B3, x1, rfl, x2⟩
      · have tk : rk (topK (gI SX 48 5 :: W)) < tp := by show rk (gI SX 48 5) < tp; omega
        rcases hg.2 (gI SX 48 5 :: W) (O ++ c) (kn + 1) op (i + 1) a1 e1 A3 B3 (hP _ _ _ hp) lj tk (by omega) (by have := hQ (gI A3 48 5); rw [← k1] at this; exact this) with ⟨SXf, SM1, x1, x2, x3⟩ | ⟨D2, c2, i2, a2, e2, kn2, Ox2, SX2, SM2, x1, x2, x3, x4, x5, x6, x7, x8, x9⟩
        · have z := x3.f34
          rw [x1, x2, Option.bind_some, M_puts_f z, Option.bind_some]
          obtain ⟨m', rfl⟩ : ∃ m', m = m' + 1 := ⟨m - 1, by omega⟩
          rw [hf m' _ z]
          exact Or.inl ⟨SXf, SM1, rfl, rfl, x3⟩
        · obtain ⟨B, y1, y2, y3⟩ := lj_bin (k := gI SX 48 5) x3 x4 (fun d hd => by have := x5 d hd; omega) (by omega) k4 k5
          rw [x1, x2, Option.bind_some, y1, Option.bind_some]
          have ec : O ++ c ++ c2 ++ [-(gI SX 48 5)] = O ++ (c ++ (c2 ++ [-(gI SX 48 5)])) := by rw [List.append_assoc, List.append_assoc]
          rw [ec] at y2 y3
          have res := ih (D2 ++ [gI SX 48 5]) (c ++ (c2 ++ [-(gI SX 48 5)])) W O Ox2 kn2 op i2 a2 e2 kn0 SX2 B (by omega) (by rw [List.length_append, List.length_append]; show kn2 = kn0 + (c.length + (c2.length + 1)); omega) (hP _ _ _ hp) y2 y3 (fun d hd => by
            rcases List.mem_append.mp hd with w | w
            · have := x5 d w; omega
            · have : d = gI SX 48 5 := by simpa using w
              rw [this]; omega) hW x6 (HG_bin hc x8 k2) (ntm _ _ _ x9)
          rcases res with w | ⟨D3, c3, i3, a3, e3, kn3, Ox3, SX3, SM3, w1, w2, w3, w4, w5, w6, w7, w8⟩
          · exact Or.inl w
          · exact Or.inr ⟨D3, c3, i3, a3, e3, kn3, Ox3, SX3, SM3, w1, w2, w3, w4, w5, w6, ⟨by omega, w7.2⟩, w8⟩
end LJ
