/-! ===== the pure part: memory ===== -/
theorem gI_pI (S : MS) (o k : Nat) (v : Int32) (a b : Nat) : gI (pI S o k v) a b = if a = o ∧ b = k then v else gI S a b := rfl
theorem gI_same {S : MS} {o k : Nat} {v : Int32} : gI (pI S o k v) o k = v := by simp [gI_pI]
theorem gI_neo {S : MS} {o k a b : Nat} {v : Int32} (h : a ≠ o) : gI (pI S o k v) a b = gI S a b := by simp [gI_pI, h]
theorem gI_nek {S : MS} {o k a b : Nat} {v : Int32} (h : b ≠ k) : gI (pI S o k v) a b = gI S a b := by simp [gI_pI, h]
theorem gI_pJ {S : MS} {o k a b : Nat} {v : Int64} : gI (pJ S o k v) a b = gI S a b := rfl
theorem gI_pR {S : MS} {o k a b v : Nat} : gI (pR S o k v) a b = gI S a b := rfl
theorem gR_pI {S : MS} {o k a b : Nat} {v : Int32} : gR (pI S o k v) a b = gR S a b := rfl
theorem gR_pJ {S : MS} {o k a b : Nat} {v : Int64} : gR (pJ S o k v) a b = gR S a b := rfl
theorem gR_pR (S : MS) (o k v a b : Nat) : gR (pR S o k v) a b = if a = o ∧ b = k then v else gR S a b := rfl
theorem gJ_pI {S : MS} {o k a b : Nat} {v : Int32} : gJ (pI S o k v) a b = gJ S a b := rfl
theorem gJ_pR {S : MS} {o k a b v : Nat} : gJ (pR S o k v) a b = gJ S a b := rfl
theorem gJ_pJ (S : MS) (o k : Nat) (v : Int64) (a b : Nat) : gJ (pJ S o k v) a b = if a = o ∧ b = k then v else gJ S a b := rfl
theorem gJ_same {S : MS} {o k : Nat} {v : Int64} : gJ (pJ S o k v) o k = v := by simp [gJ_pJ]
theorem gJ_neo {S : MS} {o k a b : Nat} {v : Int64} (h : a ≠ o) : gJ (pJ S o k v) a b = gJ S a b := by simp [gJ_pJ, h]
theorem gJ_nek {S : MS} {o k a b : Nat} {v : Int64} (h : b ≠ k) : gJ (pJ S o k v) a b = gJ S a b := by simp [gJ_pJ, h]
theorem sR_pI {S : MS} {o k : Nat} {v : Int32} : (pI S o k v).2.1 = S.2.1 := rfl
theorem sR_pJ {S : MS} {o k : Nat} {v : Int64} : (pJ S o k v).2.1 = S.2.1 := rfl
/-! ints -/
theorem i_lt {a b : Int32} : a < b ↔ a.toInt < b.toInt := Int32.lt_iff_toInt_lt
theorem i_le {a b : Int32} : a ≤ b ↔ a.toInt ≤ b.toInt := Int32.le_iff_toInt_le
theorem i_eq {a b : Int32} : a = b ↔ a.toInt = b.toInt := Int32.toInt_inj.symm
theorem clamp_toInt {a : Int32} (h : 0 ≤ a) : (a.toNatClampNeg : Int) = a.toInt := by
  obtain ⟨j, hj, rfl⟩ := nI_of (x := a) (by simpa [Int32.not_lt] using h)
  rw [nI_clamp hj, nI_toInt hj]
theorem bnd_of {a : Int32} {n : Nat} (h : 0 ≤ a) (h2 : a.toInt < n) : bnd a n = true := by
  have h3 := clamp_toInt h
  unfold bnd
  refine decide_eq_true ⟨Int32.not_lt.mpr h, by omega⟩
theorem bnd_nI {i n : Nat} (h : i < n) (hn : n < 2 ^ 31) : bnd (nI i) n = true := by
  unfold bnd
  refine decide_eq_true ⟨nI_pos (by omega), by rw [nI_clamp (by omega)]; exact h⟩
theorem i_add {a b : Int32} (h1 : -2147483648 ≤ a.toInt + b.toInt) (h2 : a.toInt + b.toInt < 2147483648) : (a + b).toInt = a.toInt + b.toInt := by
  rw [Int32.toInt_add]; simp only [Int.bmod_def]; omega
theorem i_sub {a b : Int32} (h1 : -2147483648 ≤ a.toInt - b.toInt) (h2 : a.toInt - b.toInt < 2147483648) : (a - b).toInt = a.toInt - b.toInt := by
  rw [Int32.toInt_sub]; simp only [Int.bmod_def]; omega
theorem i_mul {a b : Int32} (h1 : -2147483648 ≤ a.toInt * b.toInt) (h2 : a.toInt * b.toInt < 2147483648) : (a * b).toInt = a.toInt * b.toInt := by
  rw [Int32.toInt_mul]; simp only [Int.bmod_def]; omega
theorem i_rng (a : Int32) : -2147483648 ≤ a.toInt ∧ a.toInt < 2147483648 := ⟨Int32.le_toInt a, Int32.toInt_lt a⟩
theorem nI_mul (a b : Nat) : nI a * nI b = nI (a * b) := (Int32.ofNat_mul a b).symm
