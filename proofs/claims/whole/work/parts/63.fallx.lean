/-! ===== where it falls, in the class ===== -/
theorem nI_div {a b : Nat} (ha : a < 2 ^ 31) (hb : b < 2 ^ 31) : nI a / nI b = nI (a / b) := by
  apply Int32.toInt_inj.mp
  rw [Int32.toInt_div, nI_toInt ha, nI_toInt hb, nI_toInt (Nat.lt_of_le_of_lt (Nat.div_le_self _ _) ha)]
  have h1 : (a : Int).tdiv (b : Int) = ((a / b : Nat) : Int) := (Int.ofNat_tdiv a b).symm
  have h2 : a / b ≤ a := Nat.div_le_self _ _
  rw [h1]
  generalize a / b = q at h2
  simp only [Int.bmod_def]; omega
theorem nI_subN {a b : Nat} (h : b ≤ a) : nI a - nI b = nI (a - b) := by
  have e := nI_add (a - b) b
  rw [show a - b + b = a from by omega] at e
  rw [← e]; grind
theorem hr24_nI {k : Nat} (hk : k < 2 ^ 31) : hr24 (nI k) = nI (k % 24) := by
  unfold hr24
  have : k / 24 * 24 ≤ k := Nat.div_mul_le_self k 24
  rw [show (24 : Int32) = nI 24 from rfl, nI_div hk (by decide), nI_mul, nI_subN this]
  congr 1; omega
theorem xor_nn {k : Nat} (hk : k < 2 ^ 31) : (0 : Int32) ≤ nI k ^^^ 24 := by
  rw [show (24 : Int32) = nI 24 from rfl]
  have e : nI k ^^^ nI 24 = nI (k ^^^ 24) := by
    apply Int32.toBitVec_inj.mp
    show BitVec.ofNat 32 k ^^^ BitVec.ofNat 32 24 = BitVec.ofNat 32 (k ^^^ 24)
    exact (BitVec.ofNat_xor).symm
  rw [e]
  exact nI_pos' (Nat.xor_lt_two_pow hk (by decide))
theorem X_floor {k : Nat} {S : MS} (hk : k < 2 ^ 31) : fJ9_floorMod_7cf53 (nI k) 24 S = some (nI (k % 24)) := by
  unfold fJ9_floorMod_7cf53
  rw [if_neg (by decide), if_pos (xor_nn hk)]
  exact congrArg some (hr24_nI hk)
theorem X_sunOf {t : Nat} {S : MS} {x : Int32} (h : XO t S) (hx : 0 ≤ x) : fX8_sunOf t x S = some (sn (tX S t) (hr24 x).toNatClampNeg) := by
  obtain ⟨k, hk, rfl⟩ := nI_of (Int32.not_lt.mpr hx)
  have hm : k % 24 < 24 := Nat.mod_lt _ (by decide)
  unfold fX8_sunOf
  rw [X_floor hk, Option.bind_some, rt_1 h.1 h.1.1, lt_2 h.1.1, bnd_nI hm (by decide), if_pos rfl, hr24_nI hk, nI_clamp (by omega)]
  show _ = some (snX S t (k % 24))
  unfold snX; rw [if_pos hm]
def cellsS (T : TT) (W : Nat → Int32) (far at_ : Int32) : Int32 := if far = 0 then 0 else wthn (lwl T 0) (nmW W far 0 0 at_) 7 far
theorem X_fall_107 {t w : Nat} {S : MS} {way : Int32} (h : XO t S) (hw : isW w) (hK : WK (tX S t)) (hb : WB (wX S w)) :
    ∃ S1, fX0_fall_107 52 w way S = some S1 ∧ wX S1 w = wX S w ∧ Fr (PX w) S S1 ∧ gI S1 w 15 = gI S w 15 ∧
      gI S1 w 12 = clampS (wX S w 4 + cellsS (tX S t) (wX S w) (gI S w 15) (hr24 (wX S w 3)) * dnB way) (sc (tX S t) 8 - 1) ∧ gI S1 w 13 = clampS (wX S w 5 + cellsS (tX S t) (wX S w) (gI S w 15) (hr24 (wX S w 3)) * rtB way) (sc (tX S t) 9 - 1) ∧
      gI S1 w 14 = b2i (decide (wX S w 4 = gI S1 w 12 ∧ wX S w 5 = gI S1 w 13)) := by
  have hge := isW_ge hw
  have pw : ∀ j, PX w w j := fun j => Or.inr ⟨Nat.le_refl _, by omega⟩
  have last : ∀ (S2 : MS) (cells : Int32), XO t S2 → tX S2 t = tX S t → wX S2 w = wX S w → Fr (PX w) S S2 → gI S2 w 15 = gI S w 15 →
      ∃ S1, fX0_fall_140 52 w way cells S2 = some S1 ∧ wX S1 w = wX S w ∧ Fr (PX w) S S1 ∧ gI S1 w 15 = gI S w 15 ∧ gI S1 w 12 = clampS (wX S w 4 + cells * dnB way) (sc (tX S t) 8 - 1) ∧ gI S1 w 13 = clampS (wX S w 5 + cells * rtB way) (sc (tX S t) 9 - 1) ∧ gI S1 w 14 = b2i (decide (wX S w 4 = gI S1 w 12 ∧ wX S w 5 = gI S1 w 13)) := by
    intro S2 cells h2 et ew f2 e15
    have e4 : gI S2 w 4 = wX S w 4 := by rw [← ew]; rfl
    have e5 : gI S2 w 5 = wX S w 5 := by rw [← ew]; rfl
    have hwt : w ≠ t := by rcases h.1.1 with rfl | rfl <;> omega
    have e8 : gI S2 t 8 = sc (tX S t) 8 := by rw [← et]; rfl
    have e9 : gI S2 t 9 = sc (tX S t) 9 := by rw [← et]; rfl
    unfold fX0_fall_140 fX0_fall_175 fX0_fall_208 fX9_isSheAt
    simp only [X_dn, X_rt, Option.bind_some, gR_pI, rx_ctold h2.1, e4, e8]
    rw [show (if (0 : Int32) < (if wX S w 4 + cells * dnB way < sc (tX S t) 8 - 1 then wX S w 4 + cells * dnB way else sc (tX S t) 8 - 1) then (if wX S w 4 + cells * dnB way < sc (tX S t) 8 - 1 then wX S w 4 + cells * dnB way else sc (tX S t) 8 - 1) else 0) = clampS (wX S w 4 + cells * dnB way) (sc (tX S t) 8 - 1) from rfl]
    generalize hR : clampS (wX S w 4 + cells * dnB way) (sc (tX S t) 8 - 1) = R
    have g5 : gI (pI S2 w 12 R) w 5 = wX S w 5 := by rw [gI_nek (by decide)]; exact e5
    have g9 : gI (pI S2 w 12 R) t 9 = sc (tX S t) 9 := by rw [gI_neo (fun e => hwt e.symm)]; exact e9
    rw [g5, g9]
    rw [show (if (0 : Int32) < (if wX S w 5 + cells * rtB way < sc (tX S t) 9 - 1 then wX S w 5 + cells * rtB way else sc (tX S t) 9 - 1) then (if wX S w 5 + cells * rtB way < sc (tX S t) 9 - 1 then wX S w 5 + cells * rtB way else sc (tX S t) 9 - 1) else 0) = clampS (wX S w 5 + cells * rtB way) (sc (tX S t) 9 - 1) from rfl]
    generalize hCc : clampS (wX S w 5 + cells * rtB way) (sc (tX S t) 9 - 1) = C
    have a4 : gI (pI (pI S2 w 12 R) w 13 C) w 4 = wX S w 4 := by rw [gI_nek (by decide), gI_nek (by decide)]; exact e4
    have a5 : gI (pI (pI S2 w 12 R) w 13 C) w 5 = wX S w 5 := by rw [gI_nek (by decide), gI_nek (by decide)]; exact e5
    have a12 : gI (pI (pI S2 w 12 R) w 13 C) w 12 = R := by rw [gI_nek (by decide), gI_same]
    have a13 : gI (pI (pI S2 w 12 R) w 13 C) w 13 = C := gI_same
    have a15 : gI (pI (pI S2 w 12 R) w 13 C) w 15 = gI S w 15 := by rw [gI_nek (by decide), gI_nek (by decide)]; exact e15
    have aw : wX (pI (pI S2 w 12 R) w 13 C) w = wX S w := by rw [wX_tr (by decide), wX_tr (by decide)]; exact ew
    have af : Fr (PX w) S (pI (pI S2 w 12 R) w 13 C) := (f2.pI (pw 12)).pI (pw 13)
    generalize pI (pI S2 w 12 R) w 13 C = S3 at a4 a5 a12 a13 a15 aw af
    rw [a4, a5, a12, a13]
    have eb : (if wX S w 4 = R then (if wX S w 5 = C then some (1 : Int32) else some 0) else some 0) = some (b2i (decide (wX S w 4 = R ∧ wX S w 5 = C))) := by
      by_cases c1 : wX S w 4 = R <;> by_cases c2 : wX S w 5 = C <;> simp [c1, c2, b2i]
    rw [eb, Option.bind_some, if_pos b2i_B]
    refine ⟨_, rfl, ?_, af.pI (pw 14), ?_, ?_, ?_, ?_⟩
    · rw [wX_tr (by decide)]; exact aw
    · rw [gI_nek (by decide)]; exact a15
    · rw [gI_nek (by decide)]; exact a12
    · rw [gI_nek (by decide)]; exact a13
    · rw [gI_same, gI_nek (by decide), gI_nek (by decide), a12, a13]
  obtain ⟨S2, q1, q2, q3⟩ := X_tell (far := gI S w 15) (met := 0) (trod := 0) h.1 hw hb
  have f2 := q2.mo (P53_X (w := w))
  have h2 := h.fr hw f2
  have et : tX S2 t = tX S t := h.told hw f2
  have ew : wX S2 w = wX S w := Fr.wld q2 (fun o j a b (hq : o = 53) => by omega)
  have e15 : gI S2 w 15 = gI S w 15 := q2.2 _ _ (fun hq : w = 53 => by omega)
  unfold fX0_fall_107 cellsS
  rw [q1, Option.bind_some, e15]
  by_cases c : gI S w 15 = 0
  · rw [if_pos c, if_pos c]
    exact last S2 0 h2 et ew f2 e15
  · rw [if_neg c, if_neg c]
    obtain ⟨S3, j3, q5⟩ := X_within_0 (most := 7) (without := gI S w 15) h2.1 (by rw [et]; exact hK) h2.2.2.1
    rw [q5, Option.bind_some]
    have en : wthn (lwl (tX S2 t) 0) (gI S2 53) 7 (gI S w 15) = wthn (lwl (tX S t) 0) (nmW (wX S w) (gI S w 15) 0 0 (hr24 (wX S w 3))) 7 (gI S w 15) := by
      rw [et]; exact wthn_congr (fun j hj => q3 j hj)
    rw [en]
    have f3 : Fr (PX w) S S3 := f2.tr j3.fr
    exact last S3 _ (h2.jo j3) (h.told hw f3) (j3.wX.trans ew) f3 ((j3.gI _ _).trans e15)
theorem clampS_0 {x y R : Int32} (h1 : 0 ≤ x) (h2 : x < R) (hR : R ≤ 8) : clampS (x + 0 * y) (R - 1) = x := by
  have e : x + 0 * y = x := by grind
  rw [e]; unfold clampS; grind
theorem getI_neg {T : TT} {q c : Nat} : getI T q (-1) c = -1 := rfl
theorem X_fall_26 {t w : Nat} {S : MS} {s : Int32} (h : XO t S) (hw : isW w) (hC : WC (tX S t)) (hK : WK (tX S t)) (hD : WD (tX S t)) (hb : WB (wX S w)) (hp : WP (tX S t) (wX S w)) :
    ∃ S1, fX0_fall_26 52 w s S = some S1 ∧ wX S1 w = wX S w ∧ Fr (PX w) S S1 ∧ gI S1 w 15 = (lightS (tX S t) (wX S w) s).2 ∧
      gI S1 w 12 = (fallS (tX S t) (wX S w) s (hr24 (wX S w 3))).1 ∧ gI S1 w 13 = (fallS (tX S t) (wX S w) s (hr24 (wX S w 3))).2 ∧ gI S1 w 14 = b2i (oneS (tX S t) (wX S w) s (hr24 (wX S w 3))) := by
  have hge := isW_ge hw
  have pw : ∀ j, PX w w j := fun j => Or.inr ⟨Nat.le_refl _, by omega⟩
  have go : ∀ (S2 : MS) (way far : Int32), XO t S2 → tX S2 t = tX S t → wX S2 w = wX S w → Fr (PX w) S S2 → gI S2 w 15 = far → (lightS (tX S t) (wX S w) s).2 = far → (far ≠ 0 → (lightS (tX S t) (wX S w) s).1 = way) →
      ∃ S1, fX0_fall_107 52 w way S2 = some S1 ∧ wX S1 w = wX S w ∧ Fr (PX w) S S1 ∧ gI S1 w 15 = (lightS (tX S t) (wX S w) s).2 ∧ gI S1 w 12 = (fallS (tX S t) (wX S w) s (hr24 (wX S w 3))).1 ∧ gI S1 w 13 = (fallS (tX S t) (wX S w) s (hr24 (wX S w 3))).2 ∧ gI S1 w 14 = b2i (oneS (tX S t) (wX S w) s (hr24 (wX S w 3))) := by
    intro S2 way far h2 et ew f2 e15 l2 l1
    obtain ⟨S1, q1, q2, q3, q4, q5, q6, q7⟩ := X_fall_107 (way := way) h2 hw (by rw [et]; exact hK) (by rw [ew]; exact hb)
    rw [et, ew, e15] at q5 q6
    rw [ew] at q2 q7
    have e12 : gI S1 w 12 = (fallS (tX S t) (wX S w) s (hr24 (wX S w 3))).1 := by
      rw [q5]; unfold fallS cellsS; rw [l2]
      by_cases c : far = 0
      · rw [if_pos c, if_pos c]; exact clampS_0 hp.1 hp.2.1 hD.2.1
      · rw [if_neg c, if_neg c, l1 c]
    have e13 : gI S1 w 13 = (fallS (tX S t) (wX S w) s (hr24 (wX S w 3))).2 := by
      rw [q6]; unfold fallS cellsS; rw [l2]
      by_cases c : far = 0
      · rw [if_pos c, if_pos c]; exact clampS_0 hp.2.2.1 hp.2.2.2 hD.2.2.2
      · rw [if_neg c, if_neg c, l1 c]
    refine ⟨S1, q1, q2, f2.tr q3, ?_, e12, e13, ?_⟩
    · rw [q4, e15, l2]
    · rw [q7, e12, e13]; rfl
  unfold fX0_fall_26
  rw [rx_ctold h.1, rt_2 h.1 h.1.1, X_g_0_2 h.1 h.2.1 h.1.1 hC, Option.bind_some, gI_same]
  have f2 : Fr (PX w) S (pI S w 15 (getI (tX S t) 0 s 2)) := Fr.rf.pI (pw 15)
  have h2 := h.fr hw f2
  have et : tX (pI S w 15 (getI (tX S t) 0 s 2)) t = tX S t := h.told hw f2
  have ew : wX (pI S w 15 (getI (tX S t) 0 s 2)) w = wX S w := wX_tr (by decide)
  have e15 : gI (pI S w 15 (getI (tX S t) 0 s 2)) w 15 = getI (tX S t) 0 s 2 := gI_same
  generalize pI S w 15 (getI (tX S t) 0 s 2) = S2 at f2 h2 et ew e15
  have hC2 : WC (tX S2 t) := by rw [et]; exact hC
  by_cases c1 : getI (tX S t) 0 s 2 ≤ 0
  · rw [if_pos c1, X_lamp h2 hC2, Option.bind_some, X_way h2 hC2, Option.bind_some, et, ew]
    have nl : ¬ 0 < getI (tX S t) 0 s 2 := Int32.not_lt.mpr c1
    unfold fX0_fall_104
    have setf : ∀ far : Int32, Fr (PX w) S (pI S2 w 15 far) ∧ XO t (pI S2 w 15 far) ∧ tX (pI S2 w 15 far) t = tX S t ∧ wX (pI S2 w 15 far) w = wX S w := fun far => by
      have f3 : Fr (PX w) S (pI S2 w 15 far) := f2.pI (pw 15)
      exact ⟨f3, h.fr hw f3, h.told hw f3, by rw [wX_tr (by decide)]; exact ew⟩
    by_cases c2 : lampS (tX S t) (wX S w) = -1
    · rw [if_pos c2]
      obtain ⟨a1, a2, a3, a4⟩ := setf 0
      exact go _ _ 0 a2 a3 a4 a1 gI_same (by unfold lightS; rw [if_neg nl, if_pos c2]) (fun hq => absurd rfl hq)
    · rw [if_neg c2, X_dist h2 hC2, Option.bind_some, et, ew]
      obtain ⟨a1, a2, a3, a4⟩ := setf (lampD (tX S t) (wX S w) (lampS (tX S t) (wX S w)))
      refine go _ _ _ a2 a3 a4 a1 gI_same ?_ ?_
      · unfold lightS; rw [if_neg nl, if_neg c2]; split
        · rename_i h3; exact h3.symm
        · rfl
      · intro hq; unfold lightS; rw [if_neg nl, if_neg c2, if_neg hq]
  · rw [if_neg c1, rx_ctold h2.1, rt_2 h2.1 h.1.1, X_g_0_1 h2.1 h2.2.1 h.1.1 hC2, Option.bind_some, et]
    have pl : 0 < getI (tX S t) 0 s 2 := Int32.not_le.mp c1
    refine go S2 _ _ h2 et ew f2 e15 ?_ ?_
    · unfold lightS; rw [if_pos pl]
    · intro _; unfold lightS; rw [if_pos pl]
/-- which sun there is -/
def sunS (T : TT) (dark : Bool) (tw at_ : Int32) : Int32 := if dark = true ∨ tw = 5 then -1 else sn T at_.toNatClampNeg
theorem X_fall {t w : Nat} {S : MS} {how tw : Int32} {dr dark : Bool} (h : XO t S) (hw : isW w) (hC : WC (tX S t)) (hK : WK (tX S t)) (hD : WD (tX S t)) (hb : WB (wX S w)) (hp : WP (tX S t) (wX S w)) (h0 : 0 ≤ wX S w 3) (hh : HW how tw dr) :
    ∃ S1, fX0_fall 52 w (b2i dark) how S = some S1 ∧ wX S1 w = wX S w ∧ Fr (PX w) S S1 ∧ gI S1 w 15 = (lightS (tX S t) (wX S w) (sunS (tX S t) dark tw (hr24 (wX S w 3)))).2 ∧
      gI S1 w 12 = (fallS (tX S t) (wX S w) (sunS (tX S t) dark tw (hr24 (wX S w 3))) (hr24 (wX S w 3))).1 ∧ gI S1 w 13 = (fallS (tX S t) (wX S w) (sunS (tX S t) dark tw (hr24 (wX S w 3))) (hr24 (wX S w 3))).2 ∧ gI S1 w 14 = b2i (oneS (tX S t) (wX S w) (sunS (tX S t) dark tw (hr24 (wX S w 3))) (hr24 (wX S w 3))) := by
  unfold fX0_fall fX0_fall_11
  have k := hh.2.2.2.1
  cases dark with
  | true =>
    rw [if_neg (by decide), show sunS (tX S t) true tw (hr24 (wX S w 3)) = -1 from if_pos (Or.inl rfl)]
    exact X_fall_26 h hw hC hK hD hb hp
  | false =>
    rw [if_pos (show b2i false = 0 from rfl)]
    by_cases c : tw = 5
    · rw [if_neg (fun hq => k.mp hq c), show sunS (tX S t) false tw (hr24 (wX S w 3)) = -1 from if_pos (Or.inr c)]
      exact X_fall_26 h hw hC hK hD hb hp
    · have e3 : gI S w 3 = wX S w 3 := rfl
      rw [if_pos (k.mpr c), rx_ctold h.1, e3, X_sunOf h h0, Option.bind_some, show sunS (tX S t) false tw (hr24 (wX S w 3)) = sn (tX S t) (hr24 (wX S w 3)).toNatClampNeg from if_neg (by simp [c])]
      exact X_fall_26 h hw hC hK hD hb hp
