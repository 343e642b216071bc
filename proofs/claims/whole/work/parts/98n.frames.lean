/-! ===== what both have read so far: its parts, each with what it hangs on ===== -/
theorem HR.fr {u hr hc : Nat} {P Q : Nat → Nat → Prop} {SX SM SX1 SM1 : MS} (h : HR u hr hc SX SM) (f : Fr P SX SX1) (g : Fr Q SM SM1) (p1 : ¬ P u 10) (p2 : ¬ P u 11) (q1 : ¬ Q 2 15) (q2 : ¬ Q 2 16) : HR u hr hc SX1 SM1 := by
  obtain ⟨h1, h2, h3, h4, h5, h6⟩ := h
  exact ⟨by rw [f.2 _ _ p1]; exact h1, by rw [g.2 _ _ q1]; exact h2, h3, by rw [f.2 _ _ p2]; exact h4, by rw [g.2 _ _ q2]; exact h5, h6⟩
theorem D3.fr {u nw : Nat} {P Q : Nat → Nat → Prop} {SX SM SX1 SM1 : MS} (h : D3 u SX SM nw) (f : Fr P SX SX1) (g : Fr Q SM SM1) (p1 : ¬ P u 12) (p2 : ∀ j, ¬ P (u + 1) j) (q1 : ¬ Q 2 17) (q2 : ∀ j, ¬ Q 3 j) : D3 u SX1 SM1 nw := by
  obtain ⟨h1, h2, h3, h4⟩ := h
  refine ⟨h1, by rw [f.2 _ _ p1]; exact h2, by rw [g.2 _ _ q1]; exact h3, fun c hc => ?_⟩
  rw [f.2 _ _ (p2 c), h4 c hc]
  constructor
  · rintro ⟨k, k1, k2⟩; exact ⟨k, k1, by rw [g.2 _ _ (q2 _)]; exact k2⟩
  · rintro ⟨k, k1, k2⟩; exact ⟨k, k1, by rw [g.2 _ _ (q2 _)] at k2; exact k2⟩
theorem D2.fr {u q k : Nat} {P Q : Nat → Nat → Prop} {SX SM SX1 SM1 : MS} (h : D2 u q SX SM k) (f : Fr P SX SX1) (g : Fr Q SM SM1) (p1 : ¬ P (u + 3 + 2 * q) 3) (p2 : ∀ j, ¬ P (u + 4 + 2 * q) j) (q1 : ¬ Q 2 (18 + q)) (q2 : ∀ c j, c < wid q → ¬ Q (mB q + c) j) : D2 u q SX1 SM1 k := by
  obtain ⟨h1, h2, h3, h4⟩ := h
  refine ⟨h1, by rw [f.2 _ _ p1]; exact h2, by rw [g.2 _ _ q1]; exact h3, fun i hi j hj => ?_⟩
  rw [f.2 _ _ (p2 _), g.2 _ _ (q2 j _ hj)]
  exact h4 i hi j hj
theorem SU.fr {k : Nat} {Q : Nat → Nat → Prop} {SM SM1 : MS} (h : SU SM k) (g : Fr Q SM SM1) (q1 : ¬ Q 0 26) (q2 : ∀ j, ¬ Q 4 j) : SU SM1 k := by
  obtain ⟨h1, h2⟩ := h
  refine ⟨fun x hx => ?_, fun i j hi hj hij => ?_⟩
  · rw [g.2 _ _ q1, h1 x hx]
    constructor
    · rintro ⟨i, i1, i2⟩; exact ⟨i, i1, by rw [g.2 _ _ (q2 _)]; exact i2⟩
    · rintro ⟨i, i1, i2⟩; exact ⟨i, i1, by rw [g.2 _ _ (q2 _)] at i2; exact i2⟩
  · rw [g.2 _ _ (q2 _), g.2 _ _ (q2 _)] at hij
    exact h2 i j hi hj hij
/-- one law as both have it; kn: how many knots were read -/
def LW (u k : Nat) (SX SM : MS) (kn z : Nat) : Prop := z ≤ 64 ∧ gI SX (u + 14 + 3 * k) 2 = nI z ∧ ∃ f, gI SM 21 (3 + k) = nI f ∧ gI SM 22 (3 + k) = nI (f + z) ∧ f + z ≤ kn ∧ ouX SX (u + 14 + 3 * k) z = ouM SM f z ∧ (∀ i, i < z → okK (gI SM 23 (64 + (f + i))) (gI SM 24 (64 + (f + i)))) ∧ (z = 0 ∨ HG (ouX SX (u + 14 + 3 * k) z))
theorem LW.fr {u k kn kn1 z : Nat} {P Q : Nat → Nat → Prop} {SX SM SX1 SM1 : MS} (h : LW u k SX SM kn z) (f : Fr P SX SX1) (g : Fr Q SM SM1) (hk : kn ≤ kn1) (p1 : ¬ P (u + 14 + 3 * k) 2) (p2 : ∀ j, ¬ P (u + 14 + 3 * k + 1) j) (q1 : ¬ Q 21 (3 + k)) (q2 : ¬ Q 22 (3 + k)) (q3 : ∀ j, j < kn → ¬ Q 23 (64 + j)) (q4 : ∀ j, j < kn → ¬ Q 24 (64 + j)) : LW u k SX1 SM1 kn1 z := by
  obtain ⟨h1, h2, x, h3, h4, h5, h6, h7, h8⟩ := h
  have eX : ouX SX1 (u + 14 + 3 * k) z = ouX SX (u + 14 + 3 * k) z := map_rc (fun i _ => f.2 _ _ (p2 i))
  have eM : ouM SM1 x z = ouM SM x z := map_rc (fun i hi => by rw [g.2 _ _ (q3 _ (by omega)), g.2 _ _ (q4 _ (by omega))])
  refine ⟨h1, by rw [f.2 _ _ p1]; exact h2, x, by rw [g.2 _ _ q1]; exact h3, by rw [g.2 _ _ q2]; exact h4, by omega, by rw [eX, eM]; exact h6, fun i hi => ?_, by rw [eX]; exact h8⟩
  rw [g.2 _ _ (q3 _ (by omega)), g.2 _ _ (q4 _ (by omega))]
  exact h7 i hi
/-- a bit of what was told, as a number -/
def tbit (SM : MS) (w : Nat) : Prop := ((gI SM 0 27) >>> (nI w &&& 31)) &&& 1 = 1
theorem tbit_set {w x : Nat} {SM SM1 : MS} (hw : w < 32) (hx : x < 32) (h : gI SM1 0 27 = (gI SM 0 27 ||| ((1 : Int32) <<< (nI x &&& 31)))) : tbit SM1 w ↔ (tbit SM w ∨ w = x) := by
  unfold tbit
  rw [h]
  exact bit_or hw hx
theorem tbit_fr {w : Nat} {Q : Nat → Nat → Prop} {SM SM1 : MS} (g : Fr Q SM SM1) (q1 : ¬ Q 0 27) : tbit SM1 w ↔ tbit SM w := by
  unfold tbit
  rw [g.2 _ _ q1]
/-- how many knots were read -/
def KN (u : Nat) (SX SM : MS) (kn : Nat) : Prop := gI SX u 15 = nI kn ∧ gI SM 0 39 = nI kn ∧ gI SM 2 25 = nI kn ∧ kn ≤ 64 ∧ gI SM 0 38 = 0 ∧ ∀ i, i < kn → okK (gI SM 23 (64 + i)) (gI SM 24 (64 + i))
theorem KN.fr {u kn : Nat} {P Q : Nat → Nat → Prop} {SX SM SX1 SM1 : MS} (h : KN u SX SM kn) (f : Fr P SX SX1) (g : Fr Q SM SM1) (p1 : ¬ P u 15) (q1 : ¬ Q 0 39) (q2 : ¬ Q 2 25) (q3 : ¬ Q 0 38) (q4 : ∀ j, j < kn → ¬ Q 23 (64 + j)) (q5 : ∀ j, j < kn → ¬ Q 24 (64 + j)) : KN u SX1 SM1 kn := by
  obtain ⟨h1, h2, h3, h4, h5, h6⟩ := h
  refine ⟨by rw [f.2 _ _ p1]; exact h1, by rw [g.2 _ _ q1]; exact h2, by rw [g.2 _ _ q2]; exact h3, h4, by rw [g.2 _ _ q3]; exact h5, fun i hi => ?_⟩
  rw [g.2 _ _ (q4 i hi), g.2 _ _ (q5 i hi)]
  exact h6 i hi
/-- what both have read, but for what was told already -/
def BC (u : Nat) (SX SM : MS) (r c hr hc nw : Nat) (kq : Nat → Nat) (cl sd kn : Nat) (zl : Nat → Nat) (ln : Nat) : Prop :=
  RC u r c SX SM ∧ HR u hr hc SX SM ∧ D3 u SX SM nw ∧ (∀ q, q < 5 → D2 u q SX SM (kq q)) ∧ SU SM (kq 0) ∧
  (gI SX u 13 = nI cl ∧ gI SM 2 23 = nI cl ∧ cl ≤ 100) ∧ (gI SX u 14 = nI sd ∧ gI SM 2 24 = nI sd ∧ sd ≤ 99999) ∧
  KN u SX SM kn ∧ (∀ k, k < 3 → LW u k SX SM kn (zl k)) ∧ (gI SX 48 18 = nI ln ∧ gI SM 0 28 = nI ln)
/-- what was told already -/
def FG (SX SM : MS) (zl : Nat → Nat) : Prop := (∀ k, k < 3 → (tbit SM (16 + k) ↔ zl k ≠ 0)) ∧ (gI SX 48 13 = 0 ↔ ¬ tbit SM 1) ∧ (gI SX 48 14 = 0 ↔ ¬ tbit SM 8) ∧ (gI SX 48 15 = 0 ↔ ¬ tbit SM 9)
/-- what both have read, at the end of a line -/
def BD (u : Nat) (SX SM : MS) (r c hr hc nw : Nat) (kq : Nat → Nat) (cl sd kn : Nat) (zl : Nat → Nat) (ln : Nat) : Prop := BC u SX SM r c hr hc nw kq cl sd kn zl ln ∧ FG SX SM zl
theorem BD.xd {u r c hr hc nw cl sd kn ln : Nat} {kq zl : Nat → Nat} {SX SM : MS} (h : BD u SX SM r c hr hc nw kq cl sd kn zl ln) : XD u SX := by
  obtain ⟨⟨h1, _, _, h4, _⟩, _⟩ := h
  exact ⟨h1.1, fun q hq => ⟨kq q, (h4 q hq).2.1, (h4 q hq).1⟩, ⟨r, h1.2.1, h1.2.2.2.1, h1.2.2.2.2.1⟩, ⟨c, h1.2.2.2.2.2.1, h1.2.2.2.2.2.2.2.1, h1.2.2.2.2.2.2.2.2⟩⟩
theorem BD.tbl {t n u r c hr hc nw cl sd kn ln q : Nat} {bt kq zl : Nat → Nat} {SX SM : MS} (h : BD u SX SM r c hr hc nw kq cl sd kn zl ln) (hu : isT u) (hX : XL t n bt SX) (hq : q < 5) : TBL SX (u + 3 + 2 * q) (mxq q) (wid q) (kq q) := by
  obtain ⟨k, k1, k2⟩ := h.xd.tbl hu hX hq
  have h4 := h.1.2.2.2.1 q hq
  have h5 := (mBq q hq).2.2.2.2
  have e : k = kq q := (nI_eq (by omega) (by have := h4.1; omega)).mp (k2.2.2.2.1.symm.trans h4.2.1)
  rw [← e]; exact k2
