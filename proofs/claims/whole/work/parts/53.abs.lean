/-! ===== what a memory tells: a world, what is told ===== -/
def up (f : Nat → Int32) (k : Nat) (v : Int32) : Nat → Int32 := fun j => if j = k then v else f j
theorem up_same {f : Nat → Int32} {k : Nat} {v : Int32} : up f k v k = v := by simp [up]
theorem up_ne {f : Nat → Int32} {k j : Nat} {v : Int32} (h : j ≠ k) : up f k v j = f j := by simp [up, h]
def wX (S : MS) (w : Nat) : Nat → Int32 := fun k =>
  if 3 ≤ k ∧ k < 12 then gI S w k else if 20 ≤ k ∧ k < 24 then gI S (w + 1) (k - 20) else if 30 ≤ k ∧ k < 34 then gI S (w + 2) (k - 30) else if 40 ≤ k ∧ k < 44 then gI S (w + 3) (k - 40) else 0
def mWc (k : Nat) : Nat := [0, 0, 0, 27, 30, 31, 32, 34, 35, 29, 33, 28].getD k 0
def wM (S : MS) (r : Nat) : Nat → Int32 := fun k =>
  if 3 ≤ k ∧ k < 12 then gI S (mWc k) r else if 20 ≤ k ∧ k < 24 then gI S 36 (4 * r + (k - 20)) else if 30 ≤ k ∧ k < 34 then gI S 37 (4 * r + (k - 30)) else if 40 ≤ k ∧ k < 44 then gI S 38 (4 * r + (k - 40)) else 0
section W
variable {S : MS} {w r o j i k : Nat} {v : Int32} {x : Int64}
theorem wX_own (h1 : 3 ≤ j) (h2 : j < 12) : wX (pI S w j v) w = up (wX S w) j v := by
  funext k; simp only [wX, up, gI_pI]; grind
theorem wX_tr (h : 12 ≤ j) : wX (pI S w j v) w = wX S w := by
  funext k; simp only [wX, gI_pI]; grind
theorem wX_ne (h : o < w ∨ w + 4 ≤ o) : wX (pI S o j v) w = wX S w := by
  funext k; simp only [wX, gI_pI]; grind
theorem wX_pJ : wX (pJ S o j x) w = wX S w := rfl
theorem wX_met (hi : i < 4) : wX (pI S (w + 1) i v) w = up (wX S w) (20 + i) v := by
  funext k; simp only [wX, up, gI_pI]; grind
theorem wX_trod (hi : i < 4) : wX (pI S (w + 2) i v) w = up (wX S w) (30 + i) v := by
  funext k; simp only [wX, up, gI_pI]; grind
theorem wX_fond (hi : i < 4) : wX (pI S (w + 3) i v) w = up (wX S w) (40 + i) v := by
  funext k; simp only [wX, up, gI_pI]; grind
theorem mWc_r (h1 : 3 ≤ k) (h2 : k < 12) : 27 ≤ mWc k ∧ mWc k < 36 := by
  rcases (by omega : k = 3 ∨ k = 4 ∨ k = 5 ∨ k = 6 ∨ k = 7 ∨ k = 8 ∨ k = 9 ∨ k = 10 ∨ k = 11) with rfl | rfl | rfl | rfl | rfl | rfl | rfl | rfl | rfl <;> decide
theorem mWc_inj (h1 : 3 ≤ k) (h2 : k < 12) (h3 : 3 ≤ j) (h4 : j < 12) (h : mWc k = mWc j) : k = j := by
  have : ∀ a : Fin 12, ∀ b : Fin 12, 3 ≤ a.val → 3 ≤ b.val → mWc a.val = mWc b.val → a.val = b.val := by decide
  exact this ⟨k, h2⟩ ⟨j, h4⟩ h1 h3 h
theorem wM_own (h1 : 3 ≤ j) (h2 : j < 12) : wM (pI S (mWc j) r v) r = up (wM S r) j v := by
  funext k
  have ha := mWc_r h1 h2
  have hb := @mWc_r k
  have hc := @mWc_inj j k
  simp only [wM, up, gI_pI]; grind
theorem wM_ne (h : o < 27 ∨ 39 ≤ o) : wM (pI S o j v) r = wM S r := by
  funext k
  have hb := @mWc_r k
  simp only [wM, gI_pI]; grind
theorem wM_r {q : Nat} (h : r ≠ q) (h1 : 3 ≤ j) (h2 : j < 12) : wM (pI S (mWc j) r v) q = wM S q := by
  funext k
  have ha := mWc_r h1 h2
  have hb := @mWc_r k
  simp only [wM, gI_pI]; grind
theorem wM_pJ : wM (pJ S o j x) r = wM S r := rfl
theorem wM_met (hi : i < 4) : wM (pI S 36 (4 * r + i) v) r = up (wM S r) (20 + i) v := by
  funext k
  have hb := @mWc_r k
  simp only [wM, up, gI_pI]; grind
theorem wM_trod (hi : i < 4) : wM (pI S 37 (4 * r + i) v) r = up (wM S r) (30 + i) v := by
  funext k
  have hb := @mWc_r k
  simp only [wM, up, gI_pI]; grind
theorem wM_fond (hi : i < 4) : wM (pI S 38 (4 * r + i) v) r = up (wM S r) (40 + i) v := by
  funext k
  have hb := @mWc_r k
  simp only [wM, up, gI_pI]; grind
end W
