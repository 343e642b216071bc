/-! ===== cells, walls, steps ===== -/
def cellB (T : TT) (r c : Int32) : Bool := decide (¬ r < 0 ∧ ¬ sc T 8 ≤ r ∧ ¬ c < 0 ∧ ¬ sc T 9 ≤ c)
def wallB (T : TT) (r c : Int32) : Bool := wl T (r * 8 + c).toNatClampNeg
/-- the sides of the room -/
def WD (T : TT) : Prop := 0 < sc T 8 ∧ sc T 8 ≤ 8 ∧ 0 < sc T 9 ∧ sc T 9 ≤ 8
theorem cell_idx {r c R C : Int32} (h1 : ¬ r < 0) (h2 : ¬ R ≤ r) (h3 : ¬ c < 0) (h4 : ¬ C ≤ c) (hR : R ≤ 8) (hC : C ≤ 8) : ∃ i j : Nat, i < 8 ∧ j < 8 ∧ r = nI i ∧ c = nI j := by
  obtain ⟨i, hi, rfl⟩ := nI_of h1
  obtain ⟨j, hj, rfl⟩ := nI_of h3
  refine ⟨i, j, ?_, ?_, rfl, rfl⟩
  · have : nI i < nI 8 := Int32.lt_of_lt_of_le (Int32.not_le.mp h2) hR
    exact (nI_ltI hi (by decide)).mp this
  · have : nI j < nI 8 := Int32.lt_of_lt_of_le (Int32.not_le.mp h4) hC
    exact (nI_ltI hj (by decide)).mp this
theorem cellB_idx {T : TT} {r c : Int32} (hD : WD T) (h : cellB T r c = true) : ∃ i j : Nat, i < 8 ∧ j < 8 ∧ r = nI i ∧ c = nI j := by
  have h := of_decide_eq_true h
  exact cell_idx h.1 h.2.1 h.2.2.1 h.2.2.2 hD.2.1 hD.2.2.2
theorem idx8 (i j : Nat) : nI i * 8 + nI j = nI (i * 8 + j) := by
  rw [show (8 : Int32) = nI 8 from rfl, nI_mul, nI_add]
theorem idx8' (i j : Nat) : 8 * nI i + nI j = nI (i * 8 + j) := by
  rw [show (8 : Int32) = nI 8 from rfl, nI_mul, nI_add, Nat.mul_comm]
theorem X_isCell {u : Nat} {S : MS} {r c : Int32} : fX8_isCell u r c S = some (b2i (cellB (tX S u) r c)) := by
  have e8 : gI S u 8 = sc (tX S u) 8 := rfl
  have e9 : gI S u 9 = sc (tX S u) 9 := rfl
  unfold fX8_isCell cellB b2i; rw [e8, e9]; generalize sc (tX S u) 8 = R; generalize sc (tX S u) 9 = C
  by_cases h1 : r < 0 <;> by_cases h2 : R ≤ r <;> by_cases h3 : c < 0 <;> by_cases h4 : C ≤ c <;> simp [h1, h2, h3, h4]
theorem M_isCell {S : MS} {r c : Int32} (hM : MR S) : fX11_isCell 0 r c S = some (b2i (cellB (tM S) r c)) := by
  have e8 : gI S 2 0 = sc (tM S) 8 := rfl
  have e9 : gI S 2 1 = sc (tM S) 9 := rfl
  unfold fX11_isCell cellB b2i; rw [mr_3 hM, lm_2, show bnd (0 : Int32) 26 = true from rfl, show bnd (1 : Int32) 26 = true from rfl, show (0 : Int32).toNatClampNeg = 0 from rfl, show (1 : Int32).toNatClampNeg = 1 from rfl, e8, e9]; generalize sc (tM S) 8 = R; generalize sc (tM S) 9 = C
  by_cases h1 : r < 0 <;> by_cases h2 : R ≤ r <;> by_cases h3 : c < 0 <;> by_cases h4 : C ≤ c <;> simp [h1, h2, h3, h4]
theorem X_isWall {t u : Nat} {S : MS} {r c : Int32} (h : RX t S) (hu : isT u) (hD : WD (tX S u)) : fX8_isWall u r c S = some (b2i (cellB (tX S u) r c && wallB (tX S u) r c)) := by
  unfold fX8_isWall
  rw [X_isCell, Option.bind_some]
  cases hc : cellB (tX S u) r c with
  | false => rfl
  | true =>
    obtain ⟨i, j, hi, hj, rfl, rfl⟩ := cellB_idx hD hc
    rw [if_neg (by decide), idx8, rt_0 h hu, lt_1 hu, bnd_nI (by omega) (by decide), if_pos rfl, nI_clamp (by omega)]
    unfold wallB
    rw [idx8, nI_clamp (by omega)]
    have e : wl (tX S u) (i * 8 + j) = decide (i * 8 + j < 64 ∧ gI S (u + 1) (i * 8 + j) ≠ 0) := rfl
    rw [e]
    have : i * 8 + j < 64 := by omega
    by_cases hg : gI S (u + 1) (i * 8 + j) = 0 <;> simp [hg, this, b2i]
theorem fnd_none {f : Nat → Int32} {v : Int32} : ∀ n i, i + n < 2 ^ 31 → (fnd f v n i = -1 ↔ ∀ k, i ≤ k → k < i + n → f k ≠ v)
  | 0, i, _ => by simp [fnd]; intro k h1 h2; omega
  | n + 1, i, hb => by
    unfold fnd
    by_cases h : f i = v
    · rw [if_pos h]
      constructor
      · intro he
        have := nI_pos' (n := i) (by omega)
        rw [he] at this; exact absurd this (by decide)
      · intro hh; exact absurd h (hh i (Nat.le_refl _) (by omega))
    · rw [if_neg h, fnd_none n (i + 1) (by omega)]
      constructor
      · intro hh k h1 h2
        by_cases hk : k = i
        · subst hk; exact h
        · exact hh k (by omega) (by omega)
      · intro hh k h1 h2; exact hh k (by omega) (by omega)
/-- how many walls the reference may have -/
def WWM (S : MS) : Prop := 0 ≤ gI S 2 4 ∧ gI S 2 4 ≤ 8
theorem M_isWall {S : MS} {r c : Int32} (hM : MR S) (hD : WD (tM S)) (hw : WWM S) (hc : cellB (tM S) r c = true) : fX11_isWall 0 r c S = some (b2i (wallB (tM S) r c)) := by
  obtain ⟨i, j, hi, hj, rfl, rfl⟩ := cellB_idx hD hc
  obtain ⟨n, hn, en⟩ := nI_of (Int32.not_lt.mpr hw.1)
  have hn8 : n ≤ 8 := by have := hw.2; rw [en, show (8 : Int32) = nI 8 from rfl, nI_leI hn (by decide)] at this; exact this
  unfold fX11_isWall
  rw [mr_3 hM, mr_4 hM, lm_2, show bnd (4 : Int32) 26 = true from rfl, if_pos rfl, show (4 : Int32).toNatClampNeg = 4 from rfl, en, idx8', show (0 : Int32) = nI 0 from rfl, M_found (by rw [lm_3]; omega) (by decide), Option.bind_some]
  unfold wallB
  rw [idx8, nI_clamp (by omega)]
  have e : wl (tM S) (i * 8 + j) = decide (i * 8 + j < 64 ∧ ∃ k, k < (gI S 2 4).toNatClampNeg ∧ gI S 3 k = nI (i * 8 + j)) := rfl
  have hb : i * 8 + j < 64 := by omega
  have q := fnd_none (f := fun k => gI S 3 (0 + k)) (v := nI (i * 8 + j)) n 0 (by omega)
  simp only [Nat.zero_add] at q
  rw [e, en, nI_clamp hn]
  simp only [Nat.zero_add]
  by_cases hf : fnd (fun k => gI S 3 k) (nI (i * 8 + j)) n 0 = -1
  · rw [if_pos hf]
    have := q.mp hf
    have h2 : ¬ (i * 8 + j < 64 ∧ ∃ k, k < n ∧ gI S 3 k = nI (i * 8 + j)) := by
      rintro ⟨-, k, h1, h2⟩; exact this k (Nat.zero_le _) h1 h2
    rw [decide_eq_false h2]; rfl
  · rw [if_neg hf]
    have h2 : (i * 8 + j < 64 ∧ ∃ k, k < n ∧ gI S 3 k = nI (i * 8 + j)) := by
      refine ⟨hb, Classical.byContradiction fun hh => hf (q.mpr fun k _ h2 h3 => hh ⟨k, h2, h3⟩)⟩
    rw [decide_eq_true h2]; rfl
def dnB (way : Int32) : Int32 := if way = 0 then -1 else if way = 2 then 1 else 0
def rtB (way : Int32) : Int32 := if way = 1 then 1 else if way = 3 then -1 else 0
theorem X_dn {way : Int32} {S : MS} : fX10_downBy way S = some (dnB way) := by unfold fX10_downBy dnB; grind
theorem X_rt {way : Int32} {S : MS} : fX10_rightBy way S = some (rtB way) := by unfold fX10_rightBy rtB; grind
theorem M_dn {way : Int32} {S : MS} : fX11_rowBy way S = some (dnB way) := by unfold fX11_rowBy dnB; grind
theorem M_rt {way : Int32} {S : MS} : fX11_columnBy way S = some (rtB way) := by unfold fX11_columnBy rtB; grind
