/-! ===== an hour ===== -/
def drawN (n : Int32) : Int32 := ((n * 1103515245) + 12345) &&& 2147483647
theorem X_draw (n : Int32) : ((n.toInt64 * 1103515245 + 12345) &&& 2147483647).toInt32 = drawN n := by
  rw [Int64.toInt32_and, Int64.toInt32_add, Int64.toInt32_mul, Int32.toInt32_toInt64]; rfl
theorem drawN_nn (n : Int32) : ∃ k, k < 2 ^ 31 ∧ drawN n = nI k := by
  refine nI_of ?_
  unfold drawN
  generalize n * 1103515245 + 12345 = x
  intro h
  rw [Int32.lt_iff_toBitVec_slt] at h
  have e : (x &&& 2147483647).toBitVec = x.toBitVec &&& 2147483647#32 := rfl
  rw [e, show (0 : Int32).toBitVec = 0#32 from rfl, BitVec.slt_zero_eq_msb, BitVec.msb_and] at h
  simp at h
  exact absurd h.2 (by decide)
theorem shr16 {k : Nat} (hk : k < 2 ^ 31) : nI k >>> 16 = nI k / 65536 := by
  rw [show (65536 : Int32) = nI 65536 from rfl, nI_div hk (by decide)]
  apply Int32.toBitVec_inj.mp
  apply BitVec.eq_of_toNat_eq
  show (BitVec.sshiftRight' (BitVec.ofNat 32 k) (BitVec.smod 16#32 32#32)).toNat = (BitVec.ofNat 32 (k / 65536)).toNat
  have hm : (BitVec.ofNat 32 k).msb = false := by
    rw [BitVec.msb_eq_false_iff_two_mul_lt, BitVec.toNat_ofNat, Nat.mod_eq_of_lt (by omega)]; omega
  rw [BitVec.toNat_sshiftRight'_of_msb_false hm, show (BitVec.smod 16#32 32#32).toNat = 16 from rfl, BitVec.toNat_ofNat, BitVec.toNat_ofNat, Nat.mod_eq_of_lt (by omega), Nat.mod_eq_of_lt (by have := Nat.div_le_self k 65536; omega), Nat.shiftRight_eq_div_pow]
def hr100 (x : Int32) : Int32 := x - x / 100 * 100
def cloudB (T : TT) (tw : Int32) (dr : Bool) (w : Nat → Int32) : Bool := if sc T 0 = 0 ∨ tw = 1 then false else if dr = false ∨ sc T 13 = 0 ∨ sc T 13 = 100 then decide (¬ sc T 13 < 50) else decide (¬ sc T 13 ≤ hr100 (drawN (w 11) / 65536))
def cloudW (T : TT) (tw : Int32) (dr : Bool) (w : Nat → Int32) : Nat → Int32 := if sc T 0 = 0 ∨ tw = 1 then w else if dr = false ∨ sc T 13 = 0 ∨ sc T 13 = 100 then w else up w 11 (drawN (w 11))
theorem X_clouds {t w : Nat} {S : MS} {how tw : Int32} {dr : Bool} (h : XO t S) (hw : isW w) (hh : HW how tw dr) :
    ∃ S1 dark, fX0_areClouds 52 w how S = some (b2i dark, S1) ∧ wX S1 w = cloudW (tX S t) tw dr (wX S w) ∧ Fr (PX w) S S1 ∧ (sc (tX S t) 0 = 0 ∨ dark = cloudB (tX S t) tw dr (wX S w)) := by
  have hge := isW_ge hw
  have hwt : t ≠ w := by rcases h.1.1 with rfl | rfl <;> omega
  have e13 : gI S t 13 = sc (tX S t) 13 := rfl
  have es : fX7_size (t + 3) S = some (sc (tX S t) 0) := rfl
  have g13 : ∀ v, gI (pI S w 11 v) t 13 = sc (tX S t) 13 := fun v => by rw [gI_neo hwt]; rfl
  have e11 : gI S w 11 = wX S w 11 := rfl
  unfold fX0_areClouds fX0_areClouds_67
  rw [X_draw]
  simp only [gR_pI, rx_ctold h.1, rt_2 h.1 h.1.1, e13, es, g13, gI_same, e11, Option.bind_some]
  rw [show (drawN (wX S w 11) / 65536 - drawN (wX S w 11) / 65536 / 100 * 100) = hr100 (drawN (wX S w 11) / 65536) from rfl]
  unfold cloudW cloudB
  generalize sc (tX S t) 0 = n0
  generalize sc (tX S t) 13 = cl
  by_cases c1 : tw = 1
  · rw [if_neg (fun hq => hh.1.mp hq c1)]
    exact ⟨S, false, rfl, by rw [if_pos (Or.inr c1)], Fr.rf, Or.inr (by rw [if_pos (Or.inr c1)])⟩
  · rw [if_pos (hh.1.mpr c1)]
    cases dr with
    | false =>
      rw [if_pos (hh.2.2.2.2.mpr rfl)]
      by_cases c0 : n0 = 0
      · by_cases c2 : cl < 50
        · exact ⟨S, false, by rw [if_pos c2]; rfl, by rw [if_pos (Or.inl c0)], Fr.rf, Or.inl c0⟩
        · exact ⟨S, true, by rw [if_neg c2]; rfl, by rw [if_pos (Or.inl c0)], Fr.rf, Or.inl c0⟩
      · have c01 : ¬ (n0 = 0 ∨ tw = 1) := fun hq => hq.elim c0 c1
        refine ⟨S, decide (¬ cl < 50), ?_, ?_, Fr.rf, Or.inr ?_⟩
        · by_cases c2 : cl < 50 <;> simp [c2, b2i]
        · rw [if_neg c01, if_pos (Or.inl rfl)]
        · rw [if_neg c01, if_pos (Or.inl rfl)]
    | true =>
      rw [if_neg (fun hq => absurd (hh.2.2.2.2.mp hq) (by decide))]
      by_cases c0 : n0 = 0
      · rw [if_pos (Or.inl c0)]
        have : ∃ dark, (if cl = 0 then (if cl = 100 then some ((1 : Int32), S) else some (0, S)) else if cl = 100 then (if cl = 100 then some (1, S) else some (0, S)) else if n0 = 0 then (if cl = 100 then some (1, S) else some (0, S)) else if cl ≤ hr100 (drawN (wX S w 11) / 65536) then some (0, pI S w 11 (drawN (wX S w 11))) else some (1, pI S w 11 (drawN (wX S w 11)))) = some (b2i dark, S) := by
          by_cases c2 : cl = 100
          · exact ⟨true, by simp [c2, b2i]⟩
          · by_cases c3 : cl = 0
            · exact ⟨false, by simp [c3, b2i]⟩
            · exact ⟨false, by simp [c0, c2, c3, b2i]⟩
        obtain ⟨dark, hd⟩ := this
        exact ⟨S, dark, hd, rfl, Fr.rf, Or.inl c0⟩
      · have c01 : ¬ (n0 = 0 ∨ tw = 1) := fun hq => hq.elim c0 c1
        rw [if_neg c01, if_neg c01]
        by_cases c2 : cl = 0
        · refine ⟨S, false, by simp [c2, b2i], by rw [if_pos (Or.inr (Or.inl c2))], Fr.rf, Or.inr ?_⟩
          rw [if_pos (Or.inr (Or.inl c2)), c2]; decide
        · by_cases c3 : cl = 100
          · refine ⟨S, true, by simp [c3, b2i], by rw [if_pos (Or.inr (Or.inr c3))], Fr.rf, Or.inr ?_⟩
            rw [if_pos (Or.inr (Or.inr c3)), c3]; decide
          · have c23 : ¬ (true = false ∨ cl = 0 ∨ cl = 100) := by simp [c2, c3]
            rw [if_neg c23, if_neg c23, if_neg c2, if_neg c3, if_neg c0]
            have fr : Fr (PX w) S (pI S w 11 (drawN (wX S w 11))) := Fr.rf.pI (Or.inr ⟨Nat.le_refl _, by omega⟩)
            have ew : wX (pI S w 11 (drawN (wX S w 11))) w = up (wX S w) 11 (drawN (wX S w 11)) := wX_own (by decide) (by decide)
            by_cases c4 : cl ≤ hr100 (drawN (wX S w 11) / 65536)
            · exact ⟨_, false, by rw [if_pos c4]; rfl, ew, fr, Or.inr (by simp [c4])⟩
            · exact ⟨_, true, by rw [if_neg c4]; rfl, ew, fr, Or.inr (by simp [c4])⟩
theorem M_clouds {r : Nat} {S : MS} {tw : Int32} {dr : Bool} (h : MO S) (hr : r < 23) (ht : gI S 0 57 = tw) :
    ∃ S1, fX11_isCloudy 0 (nI r) (b2i dr) S = some (b2i (cloudB (tM S) tw dr (wM S r)), S1) ∧ wM S1 r = cloudW (tM S) tw dr (wM S r) ∧ Fr (PM r) S S1 := by
  have hM := h.1
  have e5 : gI S 2 5 = sc (tM S) 0 := rfl
  have e10 : gI S 2 10 = sc (tM S) 13 := rfl
  have e28 : gI S 28 r = wM S r 11 := rfl
  unfold fX11_isCloudy fX11_isCloudy_41 fX11_isCloudy_77
  rw [gR_pI, mr_3 hM, mr_44 hM, lm_2, lm_28, show bnd (5 : Int32) 26 = true from rfl, if_pos rfl, show bnd (10 : Int32) 26 = true from rfl, if_pos rfl, show (5 : Int32).toNatClampNeg = 5 from rfl, show (10 : Int32).toNatClampNeg = 10 from rfl, bnd_nI hr (by decide), if_pos rfl, if_pos rfl, if_pos rfl, nI_clamp (by omega), e5, e10, e28, ht, gI_same, show ((16 : Int32) &&& 31) = 16 from rfl]
  rw [show (wM S r 11 * 1103515245 + 12345) &&& 2147483647 = drawN (wM S r 11) from rfl]
  obtain ⟨k, hk, ek⟩ := drawN_nn (wM S r 11)
  have es : drawN (wM S r 11) >>> 16 = drawN (wM S r 11) / 65536 := by rw [ek]; exact shr16 hk
  rw [es, show (drawN (wM S r 11) / 65536 - drawN (wM S r 11) / 65536 / 100 * 100) = hr100 (drawN (wM S r 11) / 65536) from rfl]
  unfold cloudW cloudB
  generalize sc (tM S) 0 = n0
  generalize sc (tM S) 13 = cl
  by_cases c0 : n0 = 0
  · rw [if_pos c0, if_pos (Or.inl c0), if_pos (Or.inl c0)]; exact ⟨S, rfl, rfl, Fr.rf⟩
  · rw [if_neg c0]
    by_cases c1 : tw = 1
    · rw [if_pos c1, if_pos (Or.inr c1), if_pos (Or.inr c1)]; exact ⟨S, rfl, rfl, Fr.rf⟩
    · have c01 : ¬ (n0 = 0 ∨ tw = 1) := fun hq => hq.elim c0 c1
      rw [if_neg c1, if_neg c01, if_neg c01]
      have lo : (if cl < 50 then some ((0 : Int32), S) else some (1, S)) = some (b2i (decide (¬ cl < 50)), S) := by
        by_cases c2 : cl < 50 <;> simp [c2, b2i]
      rw [lo]
      cases dr with
      | false =>
        rw [if_pos (show b2i false = 0 from rfl), if_pos (Or.inl rfl), if_pos (Or.inl rfl)]
        exact ⟨S, rfl, rfl, Fr.rf⟩
      | true =>
        rw [if_neg (by decide)]
        by_cases c2 : cl = 0
        · rw [if_pos c2, if_pos (Or.inr (Or.inl c2)), if_pos (Or.inr (Or.inl c2))]
          exact ⟨S, rfl, rfl, Fr.rf⟩
        · rw [if_neg c2]
          by_cases c3 : cl = 100
          · rw [if_pos c3, if_pos (Or.inr (Or.inr c3)), if_pos (Or.inr (Or.inr c3))]
            exact ⟨S, rfl, rfl, Fr.rf⟩
          · have c23 : ¬ (true = false ∨ cl = 0 ∨ cl = 100) := by simp [c2, c3]
            rw [if_neg c3, if_neg c23, if_neg c23]
            have ew : wM (pI S 28 r (drawN (wM S r 11))) r = up (wM S r) 11 (drawN (wM S r 11)) := by
              rw [show (28 : Nat) = mWc 11 from rfl]; exact wM_own (by decide) (by decide)
            refine ⟨pI S 28 r (drawN (wM S r 11)), ?_, ew, Fr.rf.pI (PM_w (by decide) (by decide))⟩
            by_cases c4 : cl ≤ hr100 (drawN (wM S r 11) / 65536) <;> simp [c4, b2i]
