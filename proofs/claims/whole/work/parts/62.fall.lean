/-! ===== where it falls ===== -/
def iabs (x : Int32) : Int32 := if 0 ≤ x then x else 0 - x
def lampD (T : TT) (w : Nat → Int32) (l : Int32) : Int32 := iabs (w 4 - getI T 1 l 1) + iabs (w 5 - getI T 1 l 2)
/-- the nearest lamp that is lit and reaches: what is left to look at, the place, the best, how far it is -/
def lampGo (T : TT) (w : Nat → Int32) : Nat → Nat → Int32 → Int32 → Int32
  | 0, _, best, _ => best
  | n + 1, i, best, least =>
    if (w 7 >>> (nI i &&& 31)) &&& 1 = 1 ∧ ¬ getI T 1 (nI i) 3 < lampD T w (nI i) ∧ (best = -1 ∨ lampD T w (nI i) < least) then lampGo T w n (i + 1) (nI i) (lampD T w (nI i)) else lampGo T w n (i + 1) best least
theorem lampGo_s {T : TT} {w : Nat → Int32} {n i : Nat} {best least : Int32} : lampGo T w (n + 1) i best least = if (w 7 >>> (nI i &&& 31)) &&& 1 = 1 ∧ ¬ getI T 1 (nI i) 3 < lampD T w (nI i) ∧ (best = -1 ∨ lampD T w (nI i) < least) then lampGo T w n (i + 1) (nI i) (lampD T w (nI i)) else lampGo T w n (i + 1) best least := rfl
def lampS (T : TT) (w : Nat → Int32) : Int32 := lampGo T w (nq T 1) 0 (-1) 0
def wayS (down right : Int32) : Int32 := if iabs down < iabs right then (if 0 ≤ right then 1 else 3) else (if 0 ≤ down then 2 else 0)
/-- the way of the light and how far it is; -1: there is none -/
def lightS (T : TT) (w : Nat → Int32) (s : Int32) : Int32 × Int32 :=
  if 0 < getI T 0 s 2 then (getI T 0 s 1, getI T 0 s 2)
  else if lampS T w = -1 then (-1, 0)
  else if lampD T w (lampS T w) = 0 then (-1, 0)
  else (wayS (w 4 - getI T 1 (lampS T w) 1) (w 5 - getI T 1 (lampS T w) 2), lampD T w (lampS T w))
def clampS (x m : Int32) : Int32 := if 0 < (if x < m then x else m) then (if x < m then x else m) else 0
/-- row, column; s: the sun, at_: the hour of the day -/
def fallS (T : TT) (w : Nat → Int32) (s at_ : Int32) : Int32 × Int32 :=
  if (lightS T w s).2 = 0 then (w 4, w 5)
  else (clampS (w 4 + wthn (lwl T 0) (nmW w (lightS T w s).2 0 0 at_) 7 (lightS T w s).2 * dnB (lightS T w s).1) (sc T 8 - 1), clampS (w 5 + wthn (lwl T 0) (nmW w (lightS T w s).2 0 0 at_) 7 (lightS T w s).2 * rtB (lightS T w s).1) (sc T 9 - 1))
def oneS (T : TT) (w : Nat → Int32) (s at_ : Int32) : Bool := decide (w 4 = (fallS T w s at_).1 ∧ w 5 = (fallS T w s at_).2)
def WP (T : TT) (w : Nat → Int32) : Prop := 0 ≤ w 4 ∧ w 4 < sc T 8 ∧ 0 ≤ w 5 ∧ w 5 < sc T 9
theorem X_dist {t w : Nat} {S : MS} {l : Int32} (h : XO t S) (hC : WC (tX S t)) : fX0_distance 52 w l S = some (lampD (tX S t) (wX S w) l) := by
  unfold fX0_distance
  rw [rx_ctold h.1, rt_3 h.1 h.1.1, X_g_1_1 h.1 h.2.1 h.1.1 hC, Option.bind_some, X_g_1_2 h.1 h.2.1 h.1.1 hC, Option.bind_some]
  rfl
theorem i1_bit {x : Int32} (y : Int32) : ((x >>> y) &&& 1 = 1) ↔ ¬ ((x >>> y) &&& 1 = 0) := by
  generalize x >>> y = z
  have h : z &&& 1 = 0 ∨ z &&& 1 = 1 := by
    have e : (z &&& 1).toBitVec = z.toBitVec &&& 1#32 := rfl
    have e2 : z.toBitVec &&& 1#32 = if z.toBitVec.getLsbD 0 then 1#32 else 0#32 := BitVec.and_one_eq_setWidth_ofBool_getLsbD.trans (by cases z.toBitVec.getLsbD 0 <;> rfl)
    cases hb : z.toBitVec.getLsbD 0 with
    | true => right; apply Int32.toBitVec_inj.mp; rw [e, e2, hb]; rfl
    | false => left; apply Int32.toBitVec_inj.mp; rw [e, e2, hb]; rfl
  constructor
  · intro h1 h2; rw [h1] at h2; exact absurd h2 (by decide)
  · intro h1; exact h.resolve_left h1
theorem X_lamp_go {t w : Nat} {S : MS} (h : XO t S) (hC : WC (tX S t)) : ∀ (d i fuel : Nat) (best least : Int32), nq (tX S t) 1 = i + d → d < fuel → fX0_nearestLamp_7 fuel 52 w best least (nI i) S = some (lampGo (tX S t) (wX S w) d i best least) := by
  have hc1 := hC 1 (by decide)
  have hn : nq (tX S t) 1 ≤ 4 := clamp_le hc1.1 hc1.2 (by decide)
  have en : gI S (t + 5) 3 = nI (nq (tX S t) 1) := (nI_back hc1.1).symm
  have e7 : gI S w 7 = wX S w 7 := rfl
  intro d
  induction d with
  | zero =>
    intro i fuel best least e1 e2
    obtain ⟨f, rfl⟩ : ∃ f, fuel = f + 1 := ⟨fuel - 1, by omega⟩
    unfold fX0_nearestLamp_7 fX7_size
    rw [rx_ctold h.1, rt_3 h.1 h.1.1, en, Option.bind_some, e1, Nat.add_zero, if_pos (Int32.le_refl _)]
    rfl
  | succ d ih =>
    intro i fuel best least e1 e2
    obtain ⟨f, rfl⟩ : ∃ f, fuel = f + 1 := ⟨fuel - 1, by omega⟩
    unfold fX0_nearestLamp_7 fX7_size fX0_nearestLamp_66 fX0_nearestLamp_67 fX0_nearestLamp_85 fX0_nearestLamp_91
    have hin : ¬ nI (nq (tX S t) 1) ≤ nI i := by rw [nI_leI (by omega) (by omega)]; omega
    rw [rx_ctold h.1, rt_3 h.1 h.1.1, en, Option.bind_some, if_neg hin, X_dist h hC, Option.bind_some, X_g_1_3 h.1 h.2.1 h.1.1 hC, Option.bind_some, e7, nI_1]
    have ih1 := fun b l => ih (i + 1) f b l (by omega) (by omega)
    simp only [ih1, if_true, one0, if_false]
    rw [lampGo_s]
    by_cases c1 : (wX S w 7 >>> (nI i &&& 31)) &&& 1 = 1
    · simp only [c1, if_true, true_and]
      by_cases c2 : getI (tX S t) 1 (nI i) 3 < lampD (tX S t) (wX S w) (nI i)
      · simp only [c2, if_true, not_true, false_and, if_false]
      · simp only [c2, if_false, not_false_eq_true, true_and]
        by_cases c3 : best = -1
        · simp only [c3, if_true, true_or]
        · simp only [c3, if_false, false_or]
          by_cases c4 : lampD (tX S t) (wX S w) (nI i) < least
          · rw [if_neg (Int32.not_le.mpr c4), if_pos c4]
          · rw [if_pos (Int32.not_lt.mp c4), if_neg c4]
    · simp only [c1, if_false, false_and]
theorem X_lamp {t w : Nat} {S : MS} (h : XO t S) (hC : WC (tX S t)) : fX0_nearestLamp 52 w S = some (lampS (tX S t) (wX S w)) := by
  have hc1 := hC 1 (by decide)
  have hn : nq (tX S t) 1 ≤ 4 := clamp_le hc1.1 hc1.2 (by decide)
  exact X_lamp_go h hC _ 0 1000 (-1) 0 (Nat.zero_add _).symm (by omega)
theorem X_way {t w : Nat} {S : MS} {l : Int32} (h : XO t S) (hC : WC (tX S t)) : fX0_wayFrom 52 w l S = some (wayS (wX S w 4 - getI (tX S t) 1 l 1) (wX S w 5 - getI (tX S t) 1 l 2)) := by
  unfold fX0_wayFrom
  rw [rx_ctold h.1, rt_3 h.1 h.1.1, X_g_1_1 h.1 h.2.1 h.1.1 hC, Option.bind_some, X_g_1_2 h.1 h.2.1 h.1.1 hC, Option.bind_some]
  have e4 : gI S w 4 = wX S w 4 := rfl
  have e5 : gI S w 5 = wX S w 5 := rfl
  rw [e4, e5]
  generalize wX S w 4 - getI (tX S t) 1 l 1 = a
  generalize wX S w 5 - getI (tX S t) 1 l 2 = b
  unfold wayS iabs
  by_cases h1 : (if 0 ≤ a then a else 0 - a) < (if 0 ≤ b then b else 0 - b)
  · rw [if_pos h1, if_pos h1]; split <;> rfl
  · rw [if_neg h1, if_neg h1]; split <;> rfl
