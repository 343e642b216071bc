/-! ===== what never changes in the class; its tables ===== -/
def kXl : List (Nat × Nat × Int32) := [(5, 1, 6), (5, 2, 3), (7, 1, 4), (7, 2, 4), (9, 1, 12), (9, 2, 2), (11, 1, 8), (11, 2, 5), (13, 1, 4), (13, 2, 3), (28, 1, 6), (28, 2, 3), (30, 1, 4), (30, 2, 4), (32, 1, 12), (32, 2, 2), (34, 1, 8), (34, 2, 5), (36, 1, 4), (36, 2, 3), (84, 1, 24), (84, 2, 5), (49, 0, 620213248), (49, 1, 274268160), (49, 2, 773206016), (49, 3, 660013056), (49, 4, 404144128), (49, 5, 658685952), (49, 6, 150255840), (49, 7, 437714944), (49, 8, 113759360), (49, 9, 642945024), (49, 10, 404455424), (49, 11, 418847744), (49, 12, 217518080), (49, 13, 681120896), (49, 14, 522190848), (49, 15, 48365568), (49, 16, 486146048), (49, 17, 202964992), (49, 18, 442105856), (49, 19, 690458624), (49, 20, 150410240), (49, 21, 777046816), (49, 22, 412745728), (49, 23, 284870656)]
def KX (S : MS) : Prop := ∀ q ∈ kXl, gI S q.1 q.2.1 = q.2.2
def b2i (b : Bool) : Int32 := if b = true then 1 else 0
theorem b2i_0 {b : Bool} : b2i b = 0 ↔ b = false := by cases b <;> decide
theorem b2i_1 {b : Bool} : b2i b = 1 ↔ b = true := by cases b <;> decide
theorem b2i_B {b : Bool} : isB (b2i b) = true := by cases b <;> decide
set_option maxRecDepth 100000 in
theorem sx0_KX : KX SX0 := by unfold KX; decide +kernel
theorem kx_at {S : MS} (h : KX S) {o j : Nat} {v : Int32} (hm : (o, j, v) ∈ kXl) : gI S o j = v := h _ hm
theorem KX.fr {P : Nat → Nat → Prop} {S S1 : MS} (h : KX S) (f : Fr P S S1) (hp : ∀ q ∈ kXl, ¬ P q.1 q.2.1) : KX S1 := fun q hq => (f.2 _ _ (hp q hq)).trans (h q hq)
theorem KX.pI {S : MS} {o k : Nat} {v : Int32} (h : KX S) (hp : ∀ q ∈ kXl, ¬ (q.1 = o ∧ q.2.1 = k)) : KX (pI S o k v) := fun q hq => by
  rw [gI_pI, if_neg (hp q hq)]; exact h q hq
theorem PX_k {w : Nat} (hw : isW w) : ∀ q ∈ kXl, ¬ PX w q.1 q.2.1 := by
  intro q hq h
  have h1 : ∀ q ∈ kXl, q.1 < 53 ∨ q.1 = 84 := by decide
  have h2 := h1 q hq
  have h3 : ∀ w ∈ [58, 62, 66, 70, 74, 87, 91, 95], ¬ (w ≤ 84 ∧ 84 < w + 4) := by decide
  have h4 := h3 w hw
  have := isW_ge hw
  unfold PX at h
  omega
def TBL (S : MS) (o m w n : Nat) : Prop := gR S o 0 = o + 1 ∧ gI S o 1 = nI m ∧ gI S o 2 = nI w ∧ gI S o 3 = nI n ∧ n ≤ m ∧ lnX (o + 1) = m * w ∧ m ≤ 24 ∧ w ≤ 5
theorem idx_nI {i w c : Nat} : nI i * nI w + nI c = nI (i * w + c) := by rw [nI_mul, nI_add]
theorem tbl_idx {i w c m n : Nat} (h1 : i < n) (h2 : n ≤ m) (h3 : c < w) : i * w + c < m * w := by
  have := Nat.mul_le_mul_right w (show i + 1 ≤ m by omega)
  rw [Nat.add_mul] at this
  omega
theorem X_has {S : MS} {o m w n : Nat} {x : Int32} (h : TBL S o m w n) : fX7_has o x S = some (b2i (decide (0 ≤ x ∧ x < nI n))) := by
  unfold fX7_has; rw [h.2.2.2.1]; unfold b2i; grind
theorem X_get {S : MS} {o m w n c : Nat} {x : Int32} (h : TBL S o m w n) (hc : c < w) : fX7_get o x (nI c) S = some (if 0 ≤ x ∧ x < nI n then gI S (o + 1) (x.toNatClampNeg * w + c) else -1) := by
  obtain ⟨h0, h1, h2, h3, h4, h5, h6, h7⟩ := h
  unfold fX7_get fX7_get_28 fX7_get_29
  by_cases hx : x < 0
  · simp only [hx, if_true, if_neg (fun hh : 0 ≤ x ∧ x < nI n => absurd hx (Int32.not_lt.mpr hh.1))]
  · obtain ⟨i, hi, rfl⟩ := nI_of hx
    rw [h0, h2, h3, h5, idx_nI]
    have e1 : ¬ nI c < 0 := nI_pos (by omega)
    have e2 : ¬ nI w ≤ nI c := by rw [nI_leI (by omega) (by omega)]; omega
    have e3 := @nI_leI n i (by omega) (by omega)
    by_cases hin : i < n
    · have hlt := tbl_idx (w := w) (c := c) hin h4 hc
      have hm : m * w ≤ 24 * 5 := Nat.mul_le_mul h6 h7
      have e4 : ¬ nI n ≤ nI i := by rw [e3]; omega
      have e5 : 0 ≤ nI i ∧ nI i < nI n := ⟨nI_pos' hi, nI_lt hin (by omega)⟩
      simp only [hx, e1, e2, e4, if_false, bnd_nI hlt (by omega), e5, and_self, if_true, nI_clamp hi, nI_clamp (show i * w + c < 2 ^ 31 by omega), show ¬ (1 : Int32) = 0 by decide]
    · have e4 : nI n ≤ nI i := by rw [e3]; omega
      have e5 : ¬ (0 ≤ nI i ∧ nI i < nI n) := fun hh => absurd hh.2 (Int32.not_lt.mpr e4)
      simp only [hx, e4, e5, if_false, if_true]
/-- the first place that has the number -/
def fnd (f : Nat → Int32) (v : Int32) : Nat → Nat → Int32
  | 0, _ => -1
  | n + 1, i => if f i = v then nI i else fnd f v n (i + 1)
theorem fnd_congr {f g : Nat → Int32} {v : Int32} : ∀ n i, (∀ k, i ≤ k → k < i + n → f k = g k) → fnd f v n i = fnd g v n i
  | 0, _, _ => rfl
  | n + 1, i, h => by
    unfold fnd
    rw [h i (Nat.le_refl _) (by omega), fnd_congr n (i + 1) (fun k h1 h2 => h k (by omega) (by omega))]
theorem X_find_go {S : MS} {o m w n c : Nat} {v : Int32} (h : TBL S o m w n) (hc : c < w) : ∀ (d i fuel : Nat), n = i + d → d < fuel → fX7_find_2 fuel o (nI c) v (nI i) S = some (fnd (fun k => gI S (o + 1) (k * w + c)) v d i) := by
  intro d
  induction d with
  | zero =>
    intro i fuel hn hf
    obtain ⟨f, rfl⟩ : ∃ f, fuel = f + 1 := ⟨fuel - 1, by omega⟩
    unfold fX7_find_2
    rw [h.2.2.2.1, hn, Nat.add_zero]
    simp [fnd]
  | succ d ih =>
    intro i fuel hn hf
    obtain ⟨f, rfl⟩ : ∃ f, fuel = f + 1 := ⟨fuel - 1, by omega⟩
    have hb := h.2.2.2.2
    unfold fX7_find_2
    rw [X_get h hc, h.2.2.2.1, if_neg (by rw [nI_leI (by omega) (by omega)]; omega), nI_1, ih (i + 1) f (by omega) (by omega)]
    have e5 : 0 ≤ nI i ∧ nI i < nI n := ⟨nI_pos' (by omega), nI_lt (by omega) (by omega)⟩
    simp only [e5, and_self, if_true, Option.bind_some, fnd, nI_clamp (show i < 2 ^ 31 by omega)]
    split <;> rfl
theorem X_find {S : MS} {o m w n c : Nat} {v : Int32} (h : TBL S o m w n) (hc : c < w) : fX7_find o (nI c) v S = some (fnd (fun k => gI S (o + 1) (k * w + c)) v n 0) := by
  have hb := h.2.2.2.2
  exact X_find_go h hc n 0 1000 (by omega) (by omega)
theorem M_found_go {S : MS} {o a n : Nat} {v : Int32} (hl : a + n ≤ lnM o) (hs : lnM o < 1000) : ∀ (d i fuel : Nat), n = i + d → d < fuel → fX11_found_3 fuel o (nI a) (nI n) v (nI i) S = some (fnd (fun k => gI S o (a + k)) v d i) := by
  intro d
  induction d with
  | zero =>
    intro i fuel hn hf
    obtain ⟨f, rfl⟩ : ∃ f, fuel = f + 1 := ⟨fuel - 1, by omega⟩
    unfold fX11_found_3
    rw [hn, Nat.add_zero]
    simp [fnd]
  | succ d ih =>
    intro i fuel hn hf
    obtain ⟨f, rfl⟩ : ∃ f, fuel = f + 1 := ⟨fuel - 1, by omega⟩
    unfold fX11_found_3
    rw [if_neg (by rw [nI_leI (by omega) (by omega)]; omega), nI_1, nI_add, ih (i + 1) f (by omega) (by omega), bnd_nI (by omega) (by omega), if_pos rfl, nI_clamp (by omega)]
    simp only [fnd]
    split <;> rfl
theorem M_found {S : MS} {o a n : Nat} {v : Int32} (hl : a + n ≤ lnM o) (hs : lnM o < 1000) : fX11_found o (nI a) (nI n) v S = some (fnd (fun k => gI S o (a + k)) v n 0) :=
  M_found_go hl hs n 0 1000 (by omega) (by omega)
/-! the tables of what is told -/
/-- how many of each there may be -/
def WC (T : TT) : Prop := ∀ q, q < 5 → 0 ≤ sc T q ∧ sc T q ≤ nI (mxq q)
theorem nI_back {x : Int32} (h : 0 ≤ x) : nI x.toNatClampNeg = x := by
  obtain ⟨j, hj, rfl⟩ := nI_of (x := x) (Int32.not_lt.mpr h)
  rw [nI_clamp hj]
theorem clamp_le {x : Int32} {n : Nat} (h : 0 ≤ x) (h2 : x ≤ nI n) (hn : n < 2 ^ 31) : x.toNatClampNeg ≤ n := by
  obtain ⟨j, hj, rfl⟩ := nI_of (x := x) (Int32.not_lt.mpr h)
  rw [nI_clamp hj]; exact (nI_leI hj hn).mp h2
theorem clamp_lt {x : Int32} {n : Nat} (h : 0 ≤ x) (h2 : x < nI n) (hn : n < 2 ^ 31) : x.toNatClampNeg < n := by
  obtain ⟨j, hj, rfl⟩ := nI_of (x := x) (Int32.not_lt.mpr h)
  rw [nI_clamp hj]; exact (nI_ltI hj hn).mp h2
def getI (T : TT) (q : Nat) (x : Int32) (c : Nat) : Int32 := if x < 0 then -1 else tb T q x.toNatClampNeg c
theorem tbl_0 {t u : Nat} {S : MS} (h : RX t S) (hk : KX S) (hu : isT u) (hc : WC (tX S u)) : TBL S (u + 3) 6 3 (nq (tX S u) 0) := by
  have h1 := hc 0 (by decide)
  have e : sc (tX S u) 0 = gI S (u + 3) 3 := rfl
  refine ⟨rn_0 h hu, ?_, ?_, ?_, clamp_le h1.1 h1.2 (by decide), lt_4 hu, by decide, by decide⟩
  · rcases hu with rfl | rfl <;> exact kx_at hk (by decide)
  · rcases hu with rfl | rfl <;> exact kx_at hk (by decide)
  · unfold nq; rw [nI_back h1.1, e]
theorem X_g_0_0 {t u : Nat} {S : MS} {x : Int32} (h : RX t S) (hk : KX S) (hu : isT u) (hc : WC (tX S u)) : fX7_get (u + 3) x (0 : Int32) S = some (getI (tX S u) 0 x 0) := by
  have h1 := hc 0 (by decide)
  have e0 : nI (nq (tX S u) 0) = gI S (u + 3) 3 := nI_back h1.1
  have e : gI S (u + 3) 3 = sc (tX S u) 0 := rfl
  have e1 : getI (tX S u) 0 x 0 = if x < 0 then -1 else if x.toNatClampNeg < (gI S (u + 3) 3).toNatClampNeg then gI S (u + 4) (x.toNatClampNeg * 3 + 0) else -1 := by
    unfold getI; show (if x < 0 then -1 else tbX S u 0 x.toNatClampNeg 0) = _; unfold tbX; simp [wid]
  refine (X_get (c := 0) (tbl_0 h hk hu hc) (by decide)).trans (congrArg some ?_)
  rw [e0, e1]
  by_cases hx : x < 0
  · rw [if_neg (fun hh => absurd hx (Int32.not_lt.mpr hh.1)), if_pos hx]
  · obtain ⟨i, hi, rfl⟩ := nI_of hx
    obtain ⟨n, hn, e2⟩ := nI_of (x := gI S (u + 3) 3) (by rw [e]; exact Int32.not_lt.mpr h1.1)
    rw [if_neg hx, e2, nI_clamp hi, nI_clamp hn]
    simp only [nI_ltI hi hn, nI_pos' hi, true_and, show u + 3 + 1 = u + 4 from rfl]
theorem X_g_0_1 {t u : Nat} {S : MS} {x : Int32} (h : RX t S) (hk : KX S) (hu : isT u) (hc : WC (tX S u)) : fX7_get (u + 3) x (1 : Int32) S = some (getI (tX S u) 0 x 1) := by
  have h1 := hc 0 (by decide)
  have e0 : nI (nq (tX S u) 0) = gI S (u + 3) 3 := nI_back h1.1
  have e : gI S (u + 3) 3 = sc (tX S u) 0 := rfl
  have e1 : getI (tX S u) 0 x 1 = if x < 0 then -1 else if x.toNatClampNeg < (gI S (u + 3) 3).toNatClampNeg then gI S (u + 4) (x.toNatClampNeg * 3 + 1) else -1 := by
    unfold getI; show (if x < 0 then -1 else tbX S u 0 x.toNatClampNeg 1) = _; unfold tbX; simp [wid]
  refine (X_get (c := 1) (tbl_0 h hk hu hc) (by decide)).trans (congrArg some ?_)
  rw [e0, e1]
  by_cases hx : x < 0
  · rw [if_neg (fun hh => absurd hx (Int32.not_lt.mpr hh.1)), if_pos hx]
  · obtain ⟨i, hi, rfl⟩ := nI_of hx
    obtain ⟨n, hn, e2⟩ := nI_of (x := gI S (u + 3) 3) (by rw [e]; exact Int32.not_lt.mpr h1.1)
    rw [if_neg hx, e2, nI_clamp hi, nI_clamp hn]
    simp only [nI_ltI hi hn, nI_pos' hi, true_and, show u + 3 + 1 = u + 4 from rfl]
theorem X_g_0_2 {t u : Nat} {S : MS} {x : Int32} (h : RX t S) (hk : KX S) (hu : isT u) (hc : WC (tX S u)) : fX7_get (u + 3) x (2 : Int32) S = some (getI (tX S u) 0 x 2) := by
  have h1 := hc 0 (by decide)
  have e0 : nI (nq (tX S u) 0) = gI S (u + 3) 3 := nI_back h1.1
  have e : gI S (u + 3) 3 = sc (tX S u) 0 := rfl
  have e1 : getI (tX S u) 0 x 2 = if x < 0 then -1 else if x.toNatClampNeg < (gI S (u + 3) 3).toNatClampNeg then gI S (u + 4) (x.toNatClampNeg * 3 + 2) else -1 := by
    unfold getI; show (if x < 0 then -1 else tbX S u 0 x.toNatClampNeg 2) = _; unfold tbX; simp [wid]
  refine (X_get (c := 2) (tbl_0 h hk hu hc) (by decide)).trans (congrArg some ?_)
  rw [e0, e1]
  by_cases hx : x < 0
  · rw [if_neg (fun hh => absurd hx (Int32.not_lt.mpr hh.1)), if_pos hx]
  · obtain ⟨i, hi, rfl⟩ := nI_of hx
    obtain ⟨n, hn, e2⟩ := nI_of (x := gI S (u + 3) 3) (by rw [e]; exact Int32.not_lt.mpr h1.1)
    rw [if_neg hx, e2, nI_clamp hi, nI_clamp hn]
    simp only [nI_ltI hi hn, nI_pos' hi, true_and, show u + 3 + 1 = u + 4 from rfl]
theorem tbl_1 {t u : Nat} {S : MS} (h : RX t S) (hk : KX S) (hu : isT u) (hc : WC (tX S u)) : TBL S (u + 5) 4 4 (nq (tX S u) 1) := by
  have h1 := hc 1 (by decide)
  have e : sc (tX S u) 1 = gI S (u + 5) 3 := rfl
  refine ⟨rn_1 h hu, ?_, ?_, ?_, clamp_le h1.1 h1.2 (by decide), lt_6 hu, by decide, by decide⟩
  · rcases hu with rfl | rfl <;> exact kx_at hk (by decide)
  · rcases hu with rfl | rfl <;> exact kx_at hk (by decide)
  · unfold nq; rw [nI_back h1.1, e]
theorem X_g_1_0 {t u : Nat} {S : MS} {x : Int32} (h : RX t S) (hk : KX S) (hu : isT u) (hc : WC (tX S u)) : fX7_get (u + 5) x (0 : Int32) S = some (getI (tX S u) 1 x 0) := by
  have h1 := hc 1 (by decide)
  have e0 : nI (nq (tX S u) 1) = gI S (u + 5) 3 := nI_back h1.1
  have e : gI S (u + 5) 3 = sc (tX S u) 1 := rfl
  have e1 : getI (tX S u) 1 x 0 = if x < 0 then -1 else if x.toNatClampNeg < (gI S (u + 5) 3).toNatClampNeg then gI S (u + 6) (x.toNatClampNeg * 4 + 0) else -1 := by
    unfold getI; show (if x < 0 then -1 else tbX S u 1 x.toNatClampNeg 0) = _; unfold tbX; simp [wid]
  refine (X_get (c := 0) (tbl_1 h hk hu hc) (by decide)).trans (congrArg some ?_)
  rw [e0, e1]
  by_cases hx : x < 0
  · rw [if_neg (fun hh => absurd hx (Int32.not_lt.mpr hh.1)), if_pos hx]
  · obtain ⟨i, hi, rfl⟩ := nI_of hx
    obtain ⟨n, hn, e2⟩ := nI_of (x := gI S (u + 5) 3) (by rw [e]; exact Int32.not_lt.mpr h1.1)
    rw [if_neg hx, e2, nI_clamp hi, nI_clamp hn]
    simp only [nI_ltI hi hn, nI_pos' hi, true_and, show u + 5 + 1 = u + 6 from rfl]
theorem X_g_1_1 {t u : Nat} {S : MS} {x : Int32} (h : RX t S) (hk : KX S) (hu : isT u) (hc : WC (tX S u)) : fX7_get (u + 5) x (1 : Int32) S = some (getI (tX S u) 1 x 1) := by
  have h1 := hc 1 (by decide)
  have e0 : nI (nq (tX S u) 1) = gI S (u + 5) 3 := nI_back h1.1
  have e : gI S (u + 5) 3 = sc (tX S u) 1 := rfl
  have e1 : getI (tX S u) 1 x 1 = if x < 0 then -1 else if x.toNatClampNeg < (gI S (u + 5) 3).toNatClampNeg then gI S (u + 6) (x.toNatClampNeg * 4 + 1) else -1 := by
    unfold getI; show (if x < 0 then -1 else tbX S u 1 x.toNatClampNeg 1) = _; unfold tbX; simp [wid]
  refine (X_get (c := 1) (tbl_1 h hk hu hc) (by decide)).trans (congrArg some ?_)
  rw [e0, e1]
  by_cases hx : x < 0
  · rw [if_neg (fun hh => absurd hx (Int32.not_lt.mpr hh.1)), if_pos hx]
  · obtain ⟨i, hi, rfl⟩ := nI_of hx
    obtain ⟨n, hn, e2⟩ := nI_of (x := gI S (u + 5) 3) (by rw [e]; exact Int32.not_lt.mpr h1.1)
    rw [if_neg hx, e2, nI_clamp hi, nI_clamp hn]
    simp only [nI_ltI hi hn, nI_pos' hi, true_and, show u + 5 + 1 = u + 6 from rfl]
theorem X_g_1_2 {t u : Nat} {S : MS} {x : Int32} (h : RX t S) (hk : KX S) (hu : isT u) (hc : WC (tX S u)) : fX7_get (u + 5) x (2 : Int32) S = some (getI (tX S u) 1 x 2) := by
  have h1 := hc 1 (by decide)
  have e0 : nI (nq (tX S u) 1) = gI S (u + 5) 3 := nI_back h1.1
  have e : gI S (u + 5) 3 = sc (tX S u) 1 := rfl
  have e1 : getI (tX S u) 1 x 2 = if x < 0 then -1 else if x.toNatClampNeg < (gI S (u + 5) 3).toNatClampNeg then gI S (u + 6) (x.toNatClampNeg * 4 + 2) else -1 := by
    unfold getI; show (if x < 0 then -1 else tbX S u 1 x.toNatClampNeg 2) = _; unfold tbX; simp [wid]
  refine (X_get (c := 2) (tbl_1 h hk hu hc) (by decide)).trans (congrArg some ?_)
  rw [e0, e1]
  by_cases hx : x < 0
  · rw [if_neg (fun hh => absurd hx (Int32.not_lt.mpr hh.1)), if_pos hx]
  · obtain ⟨i, hi, rfl⟩ := nI_of hx
    obtain ⟨n, hn, e2⟩ := nI_of (x := gI S (u + 5) 3) (by rw [e]; exact Int32.not_lt.mpr h1.1)
    rw [if_neg hx, e2, nI_clamp hi, nI_clamp hn]
    simp only [nI_ltI hi hn, nI_pos' hi, true_and, show u + 5 + 1 = u + 6 from rfl]
theorem X_g_1_3 {t u : Nat} {S : MS} {x : Int32} (h : RX t S) (hk : KX S) (hu : isT u) (hc : WC (tX S u)) : fX7_get (u + 5) x (3 : Int32) S = some (getI (tX S u) 1 x 3) := by
  have h1 := hc 1 (by decide)
  have e0 : nI (nq (tX S u) 1) = gI S (u + 5) 3 := nI_back h1.1
  have e : gI S (u + 5) 3 = sc (tX S u) 1 := rfl
  have e1 : getI (tX S u) 1 x 3 = if x < 0 then -1 else if x.toNatClampNeg < (gI S (u + 5) 3).toNatClampNeg then gI S (u + 6) (x.toNatClampNeg * 4 + 3) else -1 := by
    unfold getI; show (if x < 0 then -1 else tbX S u 1 x.toNatClampNeg 3) = _; unfold tbX; simp [wid]
  refine (X_get (c := 3) (tbl_1 h hk hu hc) (by decide)).trans (congrArg some ?_)
  rw [e0, e1]
  by_cases hx : x < 0
  · rw [if_neg (fun hh => absurd hx (Int32.not_lt.mpr hh.1)), if_pos hx]
  · obtain ⟨i, hi, rfl⟩ := nI_of hx
    obtain ⟨n, hn, e2⟩ := nI_of (x := gI S (u + 5) 3) (by rw [e]; exact Int32.not_lt.mpr h1.1)
    rw [if_neg hx, e2, nI_clamp hi, nI_clamp hn]
    simp only [nI_ltI hi hn, nI_pos' hi, true_and, show u + 5 + 1 = u + 6 from rfl]
theorem tbl_2 {t u : Nat} {S : MS} (h : RX t S) (hk : KX S) (hu : isT u) (hc : WC (tX S u)) : TBL S (u + 7) 12 2 (nq (tX S u) 2) := by
  have h1 := hc 2 (by decide)
  have e : sc (tX S u) 2 = gI S (u + 7) 3 := rfl
  refine ⟨rn_2 h hu, ?_, ?_, ?_, clamp_le h1.1 h1.2 (by decide), lt_8 hu, by decide, by decide⟩
  · rcases hu with rfl | rfl <;> exact kx_at hk (by decide)
  · rcases hu with rfl | rfl <;> exact kx_at hk (by decide)
  · unfold nq; rw [nI_back h1.1, e]
theorem X_g_2_0 {t u : Nat} {S : MS} {x : Int32} (h : RX t S) (hk : KX S) (hu : isT u) (hc : WC (tX S u)) : fX7_get (u + 7) x (0 : Int32) S = some (getI (tX S u) 2 x 0) := by
  have h1 := hc 2 (by decide)
  have e0 : nI (nq (tX S u) 2) = gI S (u + 7) 3 := nI_back h1.1
  have e : gI S (u + 7) 3 = sc (tX S u) 2 := rfl
  have e1 : getI (tX S u) 2 x 0 = if x < 0 then -1 else if x.toNatClampNeg < (gI S (u + 7) 3).toNatClampNeg then gI S (u + 8) (x.toNatClampNeg * 2 + 0) else -1 := by
    unfold getI; show (if x < 0 then -1 else tbX S u 2 x.toNatClampNeg 0) = _; unfold tbX; simp [wid]
  refine (X_get (c := 0) (tbl_2 h hk hu hc) (by decide)).trans (congrArg some ?_)
  rw [e0, e1]
  by_cases hx : x < 0
  · rw [if_neg (fun hh => absurd hx (Int32.not_lt.mpr hh.1)), if_pos hx]
  · obtain ⟨i, hi, rfl⟩ := nI_of hx
    obtain ⟨n, hn, e2⟩ := nI_of (x := gI S (u + 7) 3) (by rw [e]; exact Int32.not_lt.mpr h1.1)
    rw [if_neg hx, e2, nI_clamp hi, nI_clamp hn]
    simp only [nI_ltI hi hn, nI_pos' hi, true_and, show u + 7 + 1 = u + 8 from rfl]
theorem X_g_2_1 {t u : Nat} {S : MS} {x : Int32} (h : RX t S) (hk : KX S) (hu : isT u) (hc : WC (tX S u)) : fX7_get (u + 7) x (1 : Int32) S = some (getI (tX S u) 2 x 1) := by
  have h1 := hc 2 (by decide)
  have e0 : nI (nq (tX S u) 2) = gI S (u + 7) 3 := nI_back h1.1
  have e : gI S (u + 7) 3 = sc (tX S u) 2 := rfl
  have e1 : getI (tX S u) 2 x 1 = if x < 0 then -1 else if x.toNatClampNeg < (gI S (u + 7) 3).toNatClampNeg then gI S (u + 8) (x.toNatClampNeg * 2 + 1) else -1 := by
    unfold getI; show (if x < 0 then -1 else tbX S u 2 x.toNatClampNeg 1) = _; unfold tbX; simp [wid]
  refine (X_get (c := 1) (tbl_2 h hk hu hc) (by decide)).trans (congrArg some ?_)
  rw [e0, e1]
  by_cases hx : x < 0
  · rw [if_neg (fun hh => absurd hx (Int32.not_lt.mpr hh.1)), if_pos hx]
  · obtain ⟨i, hi, rfl⟩ := nI_of hx
    obtain ⟨n, hn, e2⟩ := nI_of (x := gI S (u + 7) 3) (by rw [e]; exact Int32.not_lt.mpr h1.1)
    rw [if_neg hx, e2, nI_clamp hi, nI_clamp hn]
    simp only [nI_ltI hi hn, nI_pos' hi, true_and, show u + 7 + 1 = u + 8 from rfl]
theorem tbl_3 {t u : Nat} {S : MS} (h : RX t S) (hk : KX S) (hu : isT u) (hc : WC (tX S u)) : TBL S (u + 9) 8 5 (nq (tX S u) 3) := by
  have h1 := hc 3 (by decide)
  have e : sc (tX S u) 3 = gI S (u + 9) 3 := rfl
  refine ⟨rn_3 h hu, ?_, ?_, ?_, clamp_le h1.1 h1.2 (by decide), lt_10 hu, by decide, by decide⟩
  · rcases hu with rfl | rfl <;> exact kx_at hk (by decide)
  · rcases hu with rfl | rfl <;> exact kx_at hk (by decide)
  · unfold nq; rw [nI_back h1.1, e]
theorem X_g_3_0 {t u : Nat} {S : MS} {x : Int32} (h : RX t S) (hk : KX S) (hu : isT u) (hc : WC (tX S u)) : fX7_get (u + 9) x (0 : Int32) S = some (getI (tX S u) 3 x 0) := by
  have h1 := hc 3 (by decide)
  have e0 : nI (nq (tX S u) 3) = gI S (u + 9) 3 := nI_back h1.1
  have e : gI S (u + 9) 3 = sc (tX S u) 3 := rfl
  have e1 : getI (tX S u) 3 x 0 = if x < 0 then -1 else if x.toNatClampNeg < (gI S (u + 9) 3).toNatClampNeg then gI S (u + 10) (x.toNatClampNeg * 5 + 0) else -1 := by
    unfold getI; show (if x < 0 then -1 else tbX S u 3 x.toNatClampNeg 0) = _; unfold tbX; simp [wid]
  refine (X_get (c := 0) (tbl_3 h hk hu hc) (by decide)).trans (congrArg some ?_)
  rw [e0, e1]
  by_cases hx : x < 0
  · rw [if_neg (fun hh => absurd hx (Int32.not_lt.mpr hh.1)), if_pos hx]
  · obtain ⟨i, hi, rfl⟩ := nI_of hx
    obtain ⟨n, hn, e2⟩ := nI_of (x := gI S (u + 9) 3) (by rw [e]; exact Int32.not_lt.mpr h1.1)
    rw [if_neg hx, e2, nI_clamp hi, nI_clamp hn]
    simp only [nI_ltI hi hn, nI_pos' hi, true_and, show u + 9 + 1 = u + 10 from rfl]
theorem X_g_3_1 {t u : Nat} {S : MS} {x : Int32} (h : RX t S) (hk : KX S) (hu : isT u) (hc : WC (tX S u)) : fX7_get (u + 9) x (1 : Int32) S = some (getI (tX S u) 3 x 1) := by
  have h1 := hc 3 (by decide)
  have e0 : nI (nq (tX S u) 3) = gI S (u + 9) 3 := nI_back h1.1
  have e : gI S (u + 9) 3 = sc (tX S u) 3 := rfl
  have e1 : getI (tX S u) 3 x 1 = if x < 0 then -1 else if x.toNatClampNeg < (gI S (u + 9) 3).toNatClampNeg then gI S (u + 10) (x.toNatClampNeg * 5 + 1) else -1 := by
    unfold getI; show (if x < 0 then -1 else tbX S u 3 x.toNatClampNeg 1) = _; unfold tbX; simp [wid]
  refine (X_get (c := 1) (tbl_3 h hk hu hc) (by decide)).trans (congrArg some ?_)
  rw [e0, e1]
  by_cases hx : x < 0
  · rw [if_neg (fun hh => absurd hx (Int32.not_lt.mpr hh.1)), if_pos hx]
  · obtain ⟨i, hi, rfl⟩ := nI_of hx
    obtain ⟨n, hn, e2⟩ := nI_of (x := gI S (u + 9) 3) (by rw [e]; exact Int32.not_lt.mpr h1.1)
    rw [if_neg hx, e2, nI_clamp hi, nI_clamp hn]
    simp only [nI_ltI hi hn, nI_pos' hi, true_and, show u + 9 + 1 = u + 10 from rfl]
theorem X_g_3_2 {t u : Nat} {S : MS} {x : Int32} (h : RX t S) (hk : KX S) (hu : isT u) (hc : WC (tX S u)) : fX7_get (u + 9) x (2 : Int32) S = some (getI (tX S u) 3 x 2) := by
  have h1 := hc 3 (by decide)
  have e0 : nI (nq (tX S u) 3) = gI S (u + 9) 3 := nI_back h1.1
  have e : gI S (u + 9) 3 = sc (tX S u) 3 := rfl
  have e1 : getI (tX S u) 3 x 2 = if x < 0 then -1 else if x.toNatClampNeg < (gI S (u + 9) 3).toNatClampNeg then gI S (u + 10) (x.toNatClampNeg * 5 + 2) else -1 := by
    unfold getI; show (if x < 0 then -1 else tbX S u 3 x.toNatClampNeg 2) = _; unfold tbX; simp [wid]
  refine (X_get (c := 2) (tbl_3 h hk hu hc) (by decide)).trans (congrArg some ?_)
  rw [e0, e1]
  by_cases hx : x < 0
  · rw [if_neg (fun hh => absurd hx (Int32.not_lt.mpr hh.1)), if_pos hx]
  · obtain ⟨i, hi, rfl⟩ := nI_of hx
    obtain ⟨n, hn, e2⟩ := nI_of (x := gI S (u + 9) 3) (by rw [e]; exact Int32.not_lt.mpr h1.1)
    rw [if_neg hx, e2, nI_clamp hi, nI_clamp hn]
    simp only [nI_ltI hi hn, nI_pos' hi, true_and, show u + 9 + 1 = u + 10 from rfl]
theorem X_g_3_3 {t u : Nat} {S : MS} {x : Int32} (h : RX t S) (hk : KX S) (hu : isT u) (hc : WC (tX S u)) : fX7_get (u + 9) x (3 : Int32) S = some (getI (tX S u) 3 x 3) := by
  have h1 := hc 3 (by decide)
  have e0 : nI (nq (tX S u) 3) = gI S (u + 9) 3 := nI_back h1.1
  have e : gI S (u + 9) 3 = sc (tX S u) 3 := rfl
  have e1 : getI (tX S u) 3 x 3 = if x < 0 then -1 else if x.toNatClampNeg < (gI S (u + 9) 3).toNatClampNeg then gI S (u + 10) (x.toNatClampNeg * 5 + 3) else -1 := by
    unfold getI; show (if x < 0 then -1 else tbX S u 3 x.toNatClampNeg 3) = _; unfold tbX; simp [wid]
  refine (X_get (c := 3) (tbl_3 h hk hu hc) (by decide)).trans (congrArg some ?_)
  rw [e0, e1]
  by_cases hx : x < 0
  · rw [if_neg (fun hh => absurd hx (Int32.not_lt.mpr hh.1)), if_pos hx]
  · obtain ⟨i, hi, rfl⟩ := nI_of hx
    obtain ⟨n, hn, e2⟩ := nI_of (x := gI S (u + 9) 3) (by rw [e]; exact Int32.not_lt.mpr h1.1)
    rw [if_neg hx, e2, nI_clamp hi, nI_clamp hn]
    simp only [nI_ltI hi hn, nI_pos' hi, true_and, show u + 9 + 1 = u + 10 from rfl]
theorem X_g_3_4 {t u : Nat} {S : MS} {x : Int32} (h : RX t S) (hk : KX S) (hu : isT u) (hc : WC (tX S u)) : fX7_get (u + 9) x (4 : Int32) S = some (getI (tX S u) 3 x 4) := by
  have h1 := hc 3 (by decide)
  have e0 : nI (nq (tX S u) 3) = gI S (u + 9) 3 := nI_back h1.1
  have e : gI S (u + 9) 3 = sc (tX S u) 3 := rfl
  have e1 : getI (tX S u) 3 x 4 = if x < 0 then -1 else if x.toNatClampNeg < (gI S (u + 9) 3).toNatClampNeg then gI S (u + 10) (x.toNatClampNeg * 5 + 4) else -1 := by
    unfold getI; show (if x < 0 then -1 else tbX S u 3 x.toNatClampNeg 4) = _; unfold tbX; simp [wid]
  refine (X_get (c := 4) (tbl_3 h hk hu hc) (by decide)).trans (congrArg some ?_)
  rw [e0, e1]
  by_cases hx : x < 0
  · rw [if_neg (fun hh => absurd hx (Int32.not_lt.mpr hh.1)), if_pos hx]
  · obtain ⟨i, hi, rfl⟩ := nI_of hx
    obtain ⟨n, hn, e2⟩ := nI_of (x := gI S (u + 9) 3) (by rw [e]; exact Int32.not_lt.mpr h1.1)
    rw [if_neg hx, e2, nI_clamp hi, nI_clamp hn]
    simp only [nI_ltI hi hn, nI_pos' hi, true_and, show u + 9 + 1 = u + 10 from rfl]
theorem tbl_4 {t u : Nat} {S : MS} (h : RX t S) (hk : KX S) (hu : isT u) (hc : WC (tX S u)) : TBL S (u + 11) 4 3 (nq (tX S u) 4) := by
  have h1 := hc 4 (by decide)
  have e : sc (tX S u) 4 = gI S (u + 11) 3 := rfl
  refine ⟨rn_4 h hu, ?_, ?_, ?_, clamp_le h1.1 h1.2 (by decide), lt_12 hu, by decide, by decide⟩
  · rcases hu with rfl | rfl <;> exact kx_at hk (by decide)
  · rcases hu with rfl | rfl <;> exact kx_at hk (by decide)
  · unfold nq; rw [nI_back h1.1, e]
theorem X_g_4_0 {t u : Nat} {S : MS} {x : Int32} (h : RX t S) (hk : KX S) (hu : isT u) (hc : WC (tX S u)) : fX7_get (u + 11) x (0 : Int32) S = some (getI (tX S u) 4 x 0) := by
  have h1 := hc 4 (by decide)
  have e0 : nI (nq (tX S u) 4) = gI S (u + 11) 3 := nI_back h1.1
  have e : gI S (u + 11) 3 = sc (tX S u) 4 := rfl
  have e1 : getI (tX S u) 4 x 0 = if x < 0 then -1 else if x.toNatClampNeg < (gI S (u + 11) 3).toNatClampNeg then gI S (u + 12) (x.toNatClampNeg * 3 + 0) else -1 := by
    unfold getI; show (if x < 0 then -1 else tbX S u 4 x.toNatClampNeg 0) = _; unfold tbX; simp [wid]
  refine (X_get (c := 0) (tbl_4 h hk hu hc) (by decide)).trans (congrArg some ?_)
  rw [e0, e1]
  by_cases hx : x < 0
  · rw [if_neg (fun hh => absurd hx (Int32.not_lt.mpr hh.1)), if_pos hx]
  · obtain ⟨i, hi, rfl⟩ := nI_of hx
    obtain ⟨n, hn, e2⟩ := nI_of (x := gI S (u + 11) 3) (by rw [e]; exact Int32.not_lt.mpr h1.1)
    rw [if_neg hx, e2, nI_clamp hi, nI_clamp hn]
    simp only [nI_ltI hi hn, nI_pos' hi, true_and, show u + 11 + 1 = u + 12 from rfl]
theorem X_g_4_1 {t u : Nat} {S : MS} {x : Int32} (h : RX t S) (hk : KX S) (hu : isT u) (hc : WC (tX S u)) : fX7_get (u + 11) x (1 : Int32) S = some (getI (tX S u) 4 x 1) := by
  have h1 := hc 4 (by decide)
  have e0 : nI (nq (tX S u) 4) = gI S (u + 11) 3 := nI_back h1.1
  have e : gI S (u + 11) 3 = sc (tX S u) 4 := rfl
  have e1 : getI (tX S u) 4 x 1 = if x < 0 then -1 else if x.toNatClampNeg < (gI S (u + 11) 3).toNatClampNeg then gI S (u + 12) (x.toNatClampNeg * 3 + 1) else -1 := by
    unfold getI; show (if x < 0 then -1 else tbX S u 4 x.toNatClampNeg 1) = _; unfold tbX; simp [wid]
  refine (X_get (c := 1) (tbl_4 h hk hu hc) (by decide)).trans (congrArg some ?_)
  rw [e0, e1]
  by_cases hx : x < 0
  · rw [if_neg (fun hh => absurd hx (Int32.not_lt.mpr hh.1)), if_pos hx]
  · obtain ⟨i, hi, rfl⟩ := nI_of hx
    obtain ⟨n, hn, e2⟩ := nI_of (x := gI S (u + 11) 3) (by rw [e]; exact Int32.not_lt.mpr h1.1)
    rw [if_neg hx, e2, nI_clamp hi, nI_clamp hn]
    simp only [nI_ltI hi hn, nI_pos' hi, true_and, show u + 11 + 1 = u + 12 from rfl]
theorem X_g_4_2 {t u : Nat} {S : MS} {x : Int32} (h : RX t S) (hk : KX S) (hu : isT u) (hc : WC (tX S u)) : fX7_get (u + 11) x (2 : Int32) S = some (getI (tX S u) 4 x 2) := by
  have h1 := hc 4 (by decide)
  have e0 : nI (nq (tX S u) 4) = gI S (u + 11) 3 := nI_back h1.1
  have e : gI S (u + 11) 3 = sc (tX S u) 4 := rfl
  have e1 : getI (tX S u) 4 x 2 = if x < 0 then -1 else if x.toNatClampNeg < (gI S (u + 11) 3).toNatClampNeg then gI S (u + 12) (x.toNatClampNeg * 3 + 2) else -1 := by
    unfold getI; show (if x < 0 then -1 else tbX S u 4 x.toNatClampNeg 2) = _; unfold tbX; simp [wid]
  refine (X_get (c := 2) (tbl_4 h hk hu hc) (by decide)).trans (congrArg some ?_)
  rw [e0, e1]
  by_cases hx : x < 0
  · rw [if_neg (fun hh => absurd hx (Int32.not_lt.mpr hh.1)), if_pos hx]
  · obtain ⟨i, hi, rfl⟩ := nI_of hx
    obtain ⟨n, hn, e2⟩ := nI_of (x := gI S (u + 11) 3) (by rw [e]; exact Int32.not_lt.mpr h1.1)
    rw [if_neg hx, e2, nI_clamp hi, nI_clamp hn]
    simp only [nI_ltI hi hn, nI_pos' hi, true_and, show u + 11 + 1 = u + 12 from rfl]
