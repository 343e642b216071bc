/-! ===== frames ===== -/
def Fr (P : Nat → Nat → Prop) (S S1 : MS) : Prop := S1.2.1 = S.2.1 ∧ ∀ o j, ¬ P o j → gI S1 o j = gI S o j
theorem Fr.rf {P : Nat → Nat → Prop} {S : MS} : Fr P S S := ⟨rfl, fun _ _ _ => rfl⟩
theorem Fr.tr {P : Nat → Nat → Prop} {S S1 S2 : MS} (h : Fr P S S1) (g : Fr P S1 S2) : Fr P S S2 := ⟨g.1.trans h.1, fun o j hp => (g.2 o j hp).trans (h.2 o j hp)⟩
theorem Fr.mo {P Q : Nat → Nat → Prop} {S S1 : MS} (h : Fr P S S1) (g : ∀ o j, P o j → Q o j) : Fr Q S S1 := ⟨h.1, fun o j hq => h.2 o j (fun hp => hq (g o j hp))⟩
theorem Fr.pI {P : Nat → Nat → Prop} {S S1 : MS} {o k : Nat} {v : Int32} (h : Fr P S S1) (hp : P o k) : Fr P S (pI S1 o k v) := by
  refine ⟨h.1, fun a b hn => ?_⟩
  rw [gI_pI, if_neg (by rintro ⟨rfl, rfl⟩; exact hn hp)]
  exact h.2 a b hn
theorem Fr.pJ {P : Nat → Nat → Prop} {S S1 : MS} {o k : Nat} {v : Int64} (h : Fr P S S1) : Fr P S (pJ S1 o k v) := h
theorem Fr.ref {P : Nat → Nat → Prop} {S S1 : MS} (h : Fr P S S1) (o k : Nat) : gR S1 o k = gR S o k := by unfold gR; rw [h.1]
def PX (w : Nat) (o j : Nat) : Prop := o = 53 ∨ (w ≤ o ∧ o < w + 4)
def PM (r : Nat) (o j : Nat) : Prop := (o = 0 ∧ (j = 42 ∨ (58 ≤ j ∧ j ≤ 61))) ∨ (27 ≤ o ∧ o < 36 ∧ j = r) ∨ (36 ≤ o ∧ o < 39 ∧ 4 * r ≤ j ∧ j < 4 * r + 4)
/-! ===== what is told ===== -/
def wid (q : Nat) : Nat := [3, 4, 2, 5, 3].getD q 0
def mxq (q : Nat) : Nat := [6, 4, 12, 8, 4].getD q 0
abbrev TT : Type := (Nat → Int32) × (Nat → Nat → Nat → Int32) × (Nat → Bool) × (Nat → Int32) × (Nat → List Int32)
def sc (T : TT) (k : Nat) : Int32 := T.1 k
def tb (T : TT) (q i c : Nat) : Int32 := T.2.1 q i c
def wl (T : TT) (c : Nat) : Bool := T.2.2.1 c
def sn (T : TT) (h : Nat) : Int32 := T.2.2.2.1 h
def lwl (T : TT) (k : Nat) : List Int32 := T.2.2.2.2 k
def scX (S : MS) (u k : Nat) : Int32 := if k < 5 then gI S (u + 3 + 2 * k) 3 else if k < 8 then 0 else if k = 12 then 0 else if k < 16 then gI S u k else 0
def mNk (k : Nat) : Nat := [5, 6, 7, 8, 9, 0, 0, 0, 0, 1, 2, 3, 0, 10, 11, 12].getD k 0
def scM (S : MS) (k : Nat) : Int32 := if k < 5 then gI S 2 (mNk k) else if k < 8 then 0 else if k = 12 then 0 else if k < 16 then gI S 2 (mNk k) else 0
def tbX (S : MS) (u q i c : Nat) : Int32 := if q < 5 ∧ c < wid q ∧ i < (gI S (u + 3 + 2 * q) 3).toNatClampNeg then gI S (u + 4 + 2 * q) (i * wid q + c) else -1
def mB (q : Nat) : Nat := [4, 7, 11, 13, 18].getD q 0
def tbM (S : MS) (q i c : Nat) : Int32 := if q < 5 ∧ c < wid q ∧ i < (gI S 2 (5 + q)).toNatClampNeg then gI S (mB q + c) i else -1
def wlX (S : MS) (u c : Nat) : Bool := decide (c < 64 ∧ gI S (u + 1) c ≠ 0)
def wlM (S : MS) (c : Nat) : Bool := decide (c < 64 ∧ ∃ k, k < (gI S 2 4).toNatClampNeg ∧ gI S 3 k = nI c)
def snX (S : MS) (u h : Nat) : Int32 := if h < 24 then gI S (u + 2) h else 0
/-- the sun of an hour, as the reference looks for it -/
def sunGo (hr : Nat → Int32) (at_ : Int32) : Nat → Nat → Int32 → Int32 → Int32
  | 0, _, best, last => if best = -1 then last else best
  | n + 1, i, best, last =>
    let last' := if last = -1 ∨ hr last.toNatClampNeg < hr i then nI i else last
    let best' := if hr i ≤ at_ ∧ (best = -1 ∨ hr best.toNatClampNeg < hr i) then nI i else best
    sunGo hr at_ n (i + 1) best' last'
def snM (S : MS) (h : Nat) : Int32 := if h < 24 then sunGo (fun i => gI S 4 i) (nI h) (gI S 2 5).toNatClampNeg 0 (-1) (-1) else 0
def sgK (v : Int32) : Int32 := if v = 43 then 7 else if v = 45 then 8 else if v = 42 then 9 else if v = 47 then 10 else if v = 60 then 11 else if v = 256 then 12 else if v = 61 then 13 else if v = 257 then 14 else if v = 258 then 15 else if v = 62 then 16 else if v = 260 then 36 else if v = 261 then 35 else 34
def enK (s v : Int32) : Int32 := if s = 0 then v else if s = 1 then -(37 + v) else -(sgK v)
def lwX (S : MS) (u k : Nat) : List Int32 := if k < 3 then (List.range (gI S (u + 14 + 3 * k) 2).toNatClampNeg).map (fun i => gI S (u + 15 + 3 * k) i) else []
def lwM (S : MS) (k : Nat) : List Int32 := if k < 3 then (List.range ((gI S 22 k).toNatClampNeg - (gI S 21 k).toNatClampNeg)).map (fun i => enK (gI S 23 ((gI S 21 k).toNatClampNeg + i)) (gI S 24 ((gI S 21 k).toNatClampNeg + i))) else []
def tX (S : MS) (u : Nat) : TT := (scX S u, tbX S u, wlX S u, snX S u, lwX S u)
def tM (S : MS) : TT := (scM S, tbM S, wlM S, snM S, lwM S)
def nq (T : TT) (q : Nat) : Nat := (sc T q).toNatClampNeg
theorem Fr.told {P : Nat → Nat → Prop} {S S1 : MS} {u : Nat} (h : Fr P S S1) (hp : ∀ o j, u ≤ o → o < u + 23 → ¬ P o j) : tX S1 u = tX S u := by
  have e : ∀ a, a < 23 → gI S1 (u + a) = gI S (u + a) := fun a ha => by funext j; exact h.2 _ _ (hp _ _ (by omega) (by omega))
  have e0 := e 0 (by omega)
  rw [Nat.add_zero] at e0
  unfold tX
  refine Prod.ext ?_ (Prod.ext ?_ (Prod.ext ?_ (Prod.ext ?_ ?_)))
  · funext k; show scX S1 u k = scX S u k
    unfold scX
    by_cases hk : k < 5
    · simp only [hk, if_true]; rw [show u + 3 + 2 * k = u + (3 + 2 * k) from by omega, e _ (by omega)]
    · simp only [hk, if_false, e0]
  · funext q i c; show tbX S1 u q i c = tbX S u q i c
    unfold tbX
    by_cases hq : q < 5
    · rw [show u + 3 + 2 * q = u + (3 + 2 * q) from by omega, show u + 4 + 2 * q = u + (4 + 2 * q) from by omega, e _ (by omega), e _ (by omega)]
    · simp [hq]
  · funext c; show wlX S1 u c = wlX S u c
    unfold wlX; rw [e 1 (by omega)]
  · funext c; show snX S1 u c = snX S u c
    unfold snX; rw [e 2 (by omega)]
  · funext k; show lwX S1 u k = lwX S u k
    unfold lwX
    by_cases hk : k < 3
    · rw [show u + 14 + 3 * k = u + (14 + 3 * k) from by omega, show u + 15 + 3 * k = u + (15 + 3 * k) from by omega, e _ (by omega), e _ (by omega)]
    · simp [hk]
theorem Fr.toldM {P : Nat → Nat → Prop} {S S1 : MS} (h : Fr P S S1) (hp : ∀ o j, 2 ≤ o → o < 25 → ¬ P o j) : tM S1 = tM S := by
  have e : ∀ a, 2 ≤ a → a < 25 → gI S1 a = gI S a := fun a h1 h2 => by funext j; exact h.2 _ _ (hp _ _ h1 h2)
  unfold tM
  refine Prod.ext ?_ (Prod.ext ?_ (Prod.ext ?_ (Prod.ext ?_ ?_)))
  · funext k; show scM S1 k = scM S k
    unfold scM; rw [e 2 (by omega) (by omega)]
  · funext q i c; show tbM S1 q i c = tbM S q i c
    unfold tbM; rw [e 2 (by omega) (by omega)]
    by_cases hq : q < 5 ∧ c < wid q
    · have : 2 ≤ mB q + c ∧ mB q + c < 25 := by
        obtain ⟨h1, h2⟩ := hq
        rcases (by omega : q = 0 ∨ q = 1 ∨ q = 2 ∨ q = 3 ∨ q = 4) with rfl | rfl | rfl | rfl | rfl <;> simp [mB, wid] at h2 ⊢ <;> omega
      rw [e _ this.1 this.2]
    · rw [if_neg (fun h => hq ⟨h.1, h.2.1⟩), if_neg (fun h => hq ⟨h.1, h.2.1⟩)]
  · funext c; show wlM S1 c = wlM S c
    unfold wlM; rw [e 2 (by omega) (by omega), e 3 (by omega) (by omega)]
  · funext c; show snM S1 c = snM S c
    unfold snM; rw [e 2 (by omega) (by omega), e 4 (by omega) (by omega)]
  · funext k; show lwM S1 k = lwM S k
    unfold lwM; rw [e 21 (by omega) (by omega), e 22 (by omega) (by omega), e 23 (by omega) (by omega), e 24 (by omega) (by omega)]
theorem isW_ge {w : Nat} (hw : isW w) : 58 ≤ w ∧ w ≤ 95 := by revert w; unfold isW; decide
theorem PX_told {w u : Nat} (hu : isT u) (hw : isW w) : ∀ o j, u ≤ o → o < u + 23 → ¬ PX w o j := by
  intro o j h1 h2 h
  have := isW_ge hw
  unfold PX at h
  rcases hu with rfl | rfl <;> omega
theorem PM_told {r : Nat} : ∀ o j, 2 ≤ o → o < 25 → ¬ PM r o j := by
  intro o j h1 h2 h; unfold PM at h; omega
theorem Fr.wld {P : Nat → Nat → Prop} {S S1 : MS} {w : Nat} (h : Fr P S S1) (hp : ∀ o j, w ≤ o → o < w + 4 → ¬ P o j) : wX S1 w = wX S w := by
  funext k
  have e : ∀ a j, a < 4 → gI S1 (w + a) j = gI S (w + a) j := fun a j ha => h.2 _ _ (hp _ _ (by omega) (by omega))
  have e0 := fun j => e 0 j (by omega)
  simp only [Nat.add_zero] at e0
  unfold wX; rw [e0, e 1 _ (by omega), e 2 _ (by omega), e 3 _ (by omega)]
theorem Fr.wldM {r q : Nat} {S S1 : MS} (h : Fr (PM r) S S1) (hn : q ≠ r) : wM S1 q = wM S q := by
  funext k
  have hb := @mWc_r k
  unfold wM
  by_cases h1 : 3 ≤ k ∧ k < 12
  · rw [if_pos h1, if_pos h1]; exact h.2 _ _ (fun hp => by have := hb h1.1 h1.2; unfold PM at hp; omega)
  · rw [if_neg h1, if_neg h1]
    by_cases h2 : 20 ≤ k ∧ k < 24
    · rw [if_pos h2, if_pos h2]; exact h.2 _ _ (fun hp => by unfold PM at hp; omega)
    · rw [if_neg h2, if_neg h2]
      by_cases h3 : 30 ≤ k ∧ k < 34
      · rw [if_pos h3, if_pos h3]; exact h.2 _ _ (fun hp => by unfold PM at hp; omega)
      · rw [if_neg h3, if_neg h3]
        by_cases h4 : 40 ≤ k ∧ k < 44
        · rw [if_pos h4, if_pos h4]; exact h.2 _ _ (fun hp => by unfold PM at hp; omega)
        · rw [if_neg h4, if_neg h4]
