/-! ===== laws: a pile of numbers ===== -/
def LIM : Int64 := 1000000000000
def ERR : Int64 := -9223372036854775808
theorem cmp0 {a b : Int64} : lg_cmp a b = 0 ↔ a = b := by
  unfold lg_cmp; split
  · rename_i h; constructor
    · intro h2; exact absurd h2 (by decide)
    · rintro rfl; exact absurd h (Int64.lt_irrefl)
  · split
    · rename_i h; simp [h]
    · rename_i h; simp [h]
theorem i37 {x : Int32} (h : 37 ≤ x) (h2 : x ≤ 43) : 0 ≤ x - 37 ∧ x - 37 < 7 := by grind
theorem i67 {x : Int32} (h : x ≤ 6) : x < 7 := by grind
theorem i43 {x : Int32} (h : ¬ (37 ≤ x ∧ x ≤ 43)) : (if x < 37 then some (0 : Int32) else if 43 < x then some 0 else some 1) = some 0 := by grind
theorem i_sub0 {x : Int32} : x - 0 = x := by grind
theorem i_112 {x : Int32} : x + 1 + 1 - 2 = x := by grind
def joinK (k : Int32) (a b : Int64) : Int64 := (fX1_join k a b S00).getD ERR
theorem neg0 {a : Int64} (h : a ≠ 0) : (if 0 < a then a else -a) ≠ 0 := by grind
theorem abK {x : Int64} : (if 0 < x then x else -x) = if 0 ≤ lg_cmp x 0 then x else -x := by
  unfold lg_cmp
  split
  · rename_i h; rw [if_pos (by decide)]
  · split
    · rename_i h; rw [if_pos (by decide), h]; decide
    · rw [if_neg (by decide)]
theorem X_j9 {a b : Int64} {S : MS} : (if 0 ≤ lg_cmp b 0 then fX1_join_158 a b b S else fX1_join_158 a b (-b) S) = (if (if 0 < a then a else -a) = (0 : Int64) then none else if lg_cmp (if 0 < b then b else -b) ((1000000000000 : Int64) / (if 0 < a then a else -a)) ≤ (0 : Int32) then some (a * b) else some (-9223372036854775808 : Int64)) := by
  rw [@abK a, @abK b]
  unfold fX1_join_158 fX1_join_173
  by_cases h1 : 0 ≤ lg_cmp b 0
  · by_cases h2 : 0 ≤ lg_cmp a 0
    · simp only [if_pos h1, if_pos h2]
    · simp only [if_pos h1, if_neg h2]
  · by_cases h2 : 0 ≤ lg_cmp a 0
    · simp only [if_neg h1, if_pos h2]
    · simp only [if_neg h1, if_neg h2]
theorem X_join {k : Int32} {a b : Int64} {S : MS} : fX1_join k a b S = some (joinK k a b) := by
  have key : ∀ S, fX1_join k a b S = fX1_join k a b S00 := fun S => rfl
  have hs : (fX1_join k a b S00).isSome = true := by
    unfold fX1_join
    rw [X_j9]
    have h1 := @cmp0 a 0
    have h2 := @cmp0 b 0
    have h3 := @neg0 a
    grind (splits := 40)
  rw [key S]
  exact some_getD hs
def pushK (v : Int64) (st : List Int64) : Option (List Int64) := if 0 < lg_cmp v LIM then none else if 0 ≤ lg_cmp v (-LIM) then some (v :: st) else none
def stepK (nm : Nat → Int32) (k : Int32) (st : List Int64) : Option (List Int64) :=
  if -k ≤ 0 then pushK (-(-k)).toInt64 st
  else if 37 ≤ -k ∧ -k ≤ 43 then pushK (nm (-k - 37).toNatClampNeg).toInt64 st
  else if -k = 36 then (match st with | a :: r => pushK (if a = 0 then 1 else 0) r | [] => none)
  else (match st with | b :: a :: r => pushK (joinK (-k) a b) r | _ => none)
def runK (nm : Nat → Int32) : List Int32 → List Int64 → Option (List Int64)
  | [], st => some st
  | k :: l, st => (stepK nm k st).bind (runK nm l)
def lawE : Option (List Int64) → Int64
  | some [v] => v
  | _ => ERR
/-- what a law is worth; ERR: nothing -/
def lawV (l : List Int32) (nm : Nat → Int32) : Int64 := lawE (runK nm l [])
/-- the pile in a row of longs -/
def PL (S : MS) (c : Nat) : List Int64 → Prop
  | [] => True
  | v :: st => gJ S c st.length = v ∧ PL S c st
theorem PL.put {S : MS} {c h : Nat} {v : Int64} : ∀ {st : List Int64}, PL S c st → st.length ≤ h → PL (pJ S c h v) c st
  | [], _, _ => trivial
  | a :: st, hp, hl => by
    have hl : st.length + 1 ≤ h := hl
    exact ⟨by rw [gJ_nek (by omega)]; exact hp.1, PL.put hp.2 (by omega)⟩
theorem PL.push {S : MS} {c : Nat} {v : Int64} {st : List Int64} (h : PL S c st) : PL (pJ S c st.length v) c (v :: st) := ⟨gJ_same, h.put (Nat.le_refl _)⟩
theorem PL.same {S S1 : MS} {c : Nat} (e : S1.2.2 = S.2.2) : ∀ {st : List Int64}, PL S c st → PL S1 c st
  | [], _ => trivial
  | a :: st, hp => ⟨by unfold gJ; rw [e]; exact hp.1, PL.same e hp.2⟩
def Jo (S S1 : MS) : Prop := S1.1 = S.1 ∧ S1.2.1 = S.2.1
theorem Jo.rf {S : MS} : Jo S S := ⟨rfl, rfl⟩
theorem Jo.gI {S S1 : MS} (h : Jo S S1) (o k : Nat) : gI S1 o k = gI S o k := congrFun (congrFun h.1 o) k
theorem Jo.gR {S S1 : MS} (h : Jo S S1) (o k : Nat) : gR S1 o k = gR S o k := congrFun (congrFun h.2 o) k
def krow (kn : Nat → Int32) (i d : Nat) : List Int32 := (List.range' i d).map kn
theorem krow_s (kn : Nat → Int32) (i d : Nat) : krow kn i (d + 1) = kn i :: krow kn (i + 1) d := by simp [krow, List.range'_succ]
theorem krow_0 (kn : Nat → Int32) (n : Nat) : (List.range n).map kn = krow kn 0 n := by simp [krow, List.range_eq_range']
set_option maxHeartbeats 1000000 in
theorem X_work_go {a n : Nat} {kn nm : Nat → Int32} (hn : n ≤ 64) : ∀ (d i fuel : Nat) (st : List Int64) (S : MS), n = i + d → d < fuel → PL S (a + 2) st → st.length ≤ i → gI S a 2 = nI n → gR S a 0 = a + 1 → gR S a 1 = a + 2 → lnX (a + 1) = 64 → lnX (a + 2) = 64 → (∀ j, j < n → gI S (a + 1) j = kn j) → (∀ j, j < 7 → gI S 53 j = nm j) →
    ∃ S1, Jo S S1 ∧ fX1_workOut_4 fuel a 53 (nI st.length) (nI i) S = some (lawE (runK nm (krow kn i d) st), S1) := by
  intro d
  induction d with
  | zero =>
    intro i fuel st S e1 e2 hp hh hs hr0 hr1 hl1 hl2 hk hm
    obtain ⟨f, rfl⟩ : ∃ f, fuel = f + 1 := ⟨fuel - 1, by omega⟩
    refine ⟨S, Jo.rf, ?_⟩
    unfold fX1_workOut_4
    rw [hs, hr1, hl2, e1, Nat.add_zero, if_pos (Int32.le_refl _)]
    simp only [krow, List.range'_zero, List.map_nil, runK]
    match st, hp with
    | [], _ => simp [lawE, nI, ERR]
    | [v], hp => 
      have := hp.1
      simp [lawE, nI_0, show nI 1 = 1 from rfl, show bnd 0 64 = true from rfl, show (0 : Int32).toNatClampNeg = 0 from rfl] at this ⊢
      exact this
    | v :: x :: r, hp =>
      have : ¬ nI (v :: x :: r).length = 1 := by
        rw [show (1 : Int32) = nI 1 from rfl, nI_eq (by omega) (by decide)]; simp
      rw [if_neg this]; rfl
  | succ d ih =>
    intro i fuel st S e1 e2 hp hh hs hr0 hr1 hl1 hl2 hk hm
    obtain ⟨f, rfl⟩ : ∃ f, fuel = f + 1 := ⟨fuel - 1, by omega⟩
    rw [krow_s]
    -- one knot written at the base
    have put : ∀ (v : Int64) (r : List Int64), PL S (a + 2) r → r.length ≤ i → ∃ S1, Jo S S1 ∧ fX1_workOut_167 (fX1_workOut_4 f) a 53 (nI i) (nI r.length) v S = some (lawE ((pushK v r).bind (runK nm (krow kn (i + 1) d))), S1) := by
      intro v r hr hrl
      unfold fX1_workOut_167 pushK LIM
      by_cases c1 : 0 < lg_cmp v 1000000000000
      · rw [if_pos c1, if_pos c1]; exact ⟨S, Jo.rf, rfl⟩
      · rw [if_neg c1, if_neg c1]
        by_cases c2 : 0 ≤ lg_cmp v (-1000000000000)
        · rw [if_pos c2, if_pos c2, hr1, hl2, bnd_nI (by omega) (by decide), if_pos rfl, nI_1, nI_1, nI_clamp (by omega)]
          obtain ⟨S1, h1, h2⟩ := ih (i + 1) f (v :: r) (pJ S (a + 2) r.length v) (by omega) (by omega) hr.push (by simp; omega) hs hr0 hr1 hl1 hl2 hk hm
          exact ⟨S1, h1, by rw [Option.bind_some]; exact h2⟩
        · rw [if_neg c2, if_neg c2]; exact ⟨S, Jo.rf, rfl⟩
    unfold fX1_workOut_4
    have hin : ¬ gI S a 2 ≤ nI i := by rw [hs, nI_leI (by omega) (by omega)]; omega
    rw [if_neg hin, hr0, hl1, bnd_nI (by omega) (by decide), if_pos rfl, nI_clamp (by omega), hk i (by omega)]
    simp only [runK]
    unfold stepK
    -- the three kinds
    have leaf : ∀ v : Int64, ((if 0 < -(kn i) then (if bnd (-(kn i) - 37) (lnX 53) = true then some ((gI S 53 (-(kn i) - 37).toNatClampNeg).toInt64) else none) else some (-(-(kn i))).toInt64) = some v) → ∃ S1, Jo S S1 ∧ fX1_workOut_34 (fX1_workOut_4 f) a 53 (nI st.length) (nI i) (-(kn i)) S = some (lawE ((pushK v st).bind (runK nm (krow kn (i + 1) d))), S1) := by
      intro v hv
      have hb : (nI st.length - 0 : Int32) = nI st.length := i_sub0
      have hb1 : ¬ nI st.length < 0 := nI_pos (by omega)
      have hb2 : nI st.length < 64 := by rw [show (64 : Int32) = nI 64 from rfl, nI_ltI (by omega) (by decide)]; omega
      unfold fX1_workOut_34 fX1_workOut_39 fX1_workOut_62 fX1_workOut_111
      rw [hb]
      simp only [show ¬ (1 : Int32) = 0 by decide, if_false, hb1, hb2, if_true]
      by_cases c1 : 0 < -(kn i)
      · rw [if_pos c1] at hv ⊢
        by_cases c2 : bnd (-(kn i) - 37) (lnX 53) = true
        · rw [if_pos c2] at hv ⊢
          cases hv
          exact put _ st hp (by omega)
        · rw [if_neg c2] at hv; cases hv
      · rw [if_neg c1] at hv ⊢
        cases hv
        exact put _ st hp (by omega)
    by_cases k1 : -(kn i) ≤ 0
    · rw [if_pos k1, if_pos k1]
      exact leaf _ (by rw [if_neg (Int32.not_lt.mpr k1)])
    · rw [if_neg k1, if_neg k1]
      unfold fX5_isName
      by_cases k2 : 37 ≤ -(kn i) ∧ -(kn i) ≤ 43
      · rw [if_pos k2, if_neg (Int32.not_lt.mpr k2.1), if_neg (Int32.not_lt.mpr k2.2), Option.bind_some, if_neg (by decide)]
        have k3 := i37 k2.1 k2.2
        have k4 : (-(kn i) - 37).toNatClampNeg < 7 := clamp_lt k3.1 k3.2 (by decide)
        have k5 : bnd (-(kn i) - 37) (lnX 53) = true := by
          have := clamp_toInt k3.1
          exact bnd_of k3.1 (by rw [lx_53, ← this]; omega)
        have k6 : 0 < -(kn i) := Int32.not_le.mp k1
        exact leaf _ (by rw [if_pos k6, if_pos k5, hm _ k4])
      · rw [if_neg k2]
        have k7 := i43 k2
        rw [k7, Option.bind_some, if_pos rfl]
        unfold fX1_workOut_39
        rw [if_pos rfl]
        by_cases k8 : -(kn i) = 36
        · rw [if_pos k8, if_pos k8]
          unfold fX1_workOut_62
          match st, hp, hh with
          | [], hp, hh =>
            rw [if_pos (show nI ([] : List Int64).length - 1 < 0 by decide)]
            exact ⟨S, Jo.rf, rfl⟩
          | b :: r, hp, hh =>
            have hh : r.length + 1 ≤ i := hh
            have hb : nI (b :: r).length - 1 = nI r.length := by rw [List.length_cons, nI_pred]
            have hb1 : ¬ nI r.length < 0 := nI_pos (by omega)
            have hb2 : nI r.length < 64 := by rw [show (64 : Int32) = nI 64 from rfl, nI_ltI (by omega) (by decide)]; omega
            rw [hb, if_neg hb1, if_pos hb2, if_pos rfl, if_pos rfl, hr1, hl2, bnd_nI (by omega) (by decide), if_pos rfl, nI_clamp (by omega), hp.1]
            unfold fX1_workOut_139
            by_cases k9 : b = 0
            · rw [if_pos (cmp0.mpr k9)]
              obtain ⟨S1, h1, h2⟩ := put 1 r hp.2 (by omega)
              exact ⟨S1, h1, by rw [h2]; simp [k9]⟩
            · rw [if_neg (fun h => k9 (cmp0.mp h))]
              obtain ⟨S1, h1, h2⟩ := put 0 r hp.2 (by omega)
              exact ⟨S1, h1, by rw [h2]; simp [k9]⟩
        · rw [if_neg k8, if_neg k8]
          unfold fX1_workOut_62
          match st, hp, hh with
          | [], hp, hh =>
            rw [if_pos (show nI ([] : List Int64).length - 2 < 0 by decide)]
            exact ⟨S, Jo.rf, rfl⟩
          | [b], hp, hh =>
            rw [if_pos (show nI [b].length - 2 < 0 from show nI 1 - 2 < 0 by decide)]
            exact ⟨S, Jo.rf, rfl⟩
          | b :: x :: r, hp, hh =>
            have hh : r.length + 1 + 1 ≤ i := hh
            have hb : nI (b :: x :: r).length - 2 = nI r.length := by
              rw [List.length_cons, List.length_cons, ← nI_1, ← nI_1]; exact i_112
            have hb1 : ¬ nI r.length < 0 := nI_pos (by omega)
            have hb2 : nI r.length < 64 := by rw [show (64 : Int32) = nI 64 from rfl, nI_ltI (by omega) (by decide)]; omega
            have hp1 : gJ S (a + 2) (r.length + 1) = b := hp.1
            rw [hb, if_neg hb1, if_pos hb2, if_pos rfl, if_neg (by decide), hr1, hl2, bnd_nI (by omega) (by decide), if_pos rfl, nI_1, bnd_nI (by omega) (by decide), if_pos rfl, nI_clamp (by omega), nI_clamp (by omega), hp1, hp.2.1, X_join, Option.bind_some]
            exact put _ r hp.2.2 (by omega)
/-- no more knots than there may be -/
def WK (T : TT) : Prop := ∀ k, k < 3 → (lwl T k).length ≤ 64
theorem lwX_len {S : MS} {u k : Nat} (hk : k < 3) : (lwl (tX S u) k).length = (gI S (u + 14 + 3 * k) 2).toNatClampNeg := by
  show (lwX S u k).length = _
  unfold lwX; rw [if_pos hk]; simp
theorem X_work_0 {t u : Nat} {S : MS} (h : RX t S) (hu : isT u) (hk : WK (tX S u)) (h0 : 0 ≤ gI S (u + 14) 2) : ∃ S1, Jo S S1 ∧ fX1_workOut (u + 14) 53 S = some (lawV (lwl (tX S u) 0) (gI S 53), S1) := by
  have hl := hk 0 (by decide)
  rw [lwX_len (by decide)] at hl
  obtain ⟨S1, h1, h2⟩ := X_work_go (a := u + 14) (kn := gI S (u + 15)) (nm := gI S 53) hl (gI S (u + 14) 2).toNatClampNeg 0 1000 [] S (Nat.zero_add _).symm (by show (gI S (u + 14 + 3 * 0) 2).toNatClampNeg < 1000; omega) trivial (Nat.le_refl _) (nI_back h0).symm (rk_0 h hu) (rp_0 h hu) (lt_15 hu) (lt_16 hu) (fun _ _ => rfl) (fun _ _ => rfl)
  refine ⟨S1, h1, h2.trans ?_⟩
  show _ = some (lawE (runK (gI S 53) (lwX S u 0) []), S1)
  unfold lwX; rw [if_pos (by decide), krow_0]
theorem X_work_1 {t u : Nat} {S : MS} (h : RX t S) (hu : isT u) (hk : WK (tX S u)) (h0 : 0 ≤ gI S (u + 17) 2) : ∃ S1, Jo S S1 ∧ fX1_workOut (u + 17) 53 S = some (lawV (lwl (tX S u) 1) (gI S 53), S1) := by
  have hl := hk 1 (by decide)
  rw [lwX_len (by decide)] at hl
  obtain ⟨S1, h1, h2⟩ := X_work_go (a := u + 17) (kn := gI S (u + 18)) (nm := gI S 53) hl (gI S (u + 17) 2).toNatClampNeg 0 1000 [] S (Nat.zero_add _).symm (by show (gI S (u + 14 + 3 * 1) 2).toNatClampNeg < 1000; omega) trivial (Nat.le_refl _) (nI_back h0).symm (rk_1 h hu) (rp_1 h hu) (lt_18 hu) (lt_19 hu) (fun _ _ => rfl) (fun _ _ => rfl)
  refine ⟨S1, h1, h2.trans ?_⟩
  show _ = some (lawE (runK (gI S 53) (lwX S u 1) []), S1)
  unfold lwX; rw [if_pos (by decide), krow_0]
theorem X_work_2 {t u : Nat} {S : MS} (h : RX t S) (hu : isT u) (hk : WK (tX S u)) (h0 : 0 ≤ gI S (u + 20) 2) : ∃ S1, Jo S S1 ∧ fX1_workOut (u + 20) 53 S = some (lawV (lwl (tX S u) 2) (gI S 53), S1) := by
  have hl := hk 2 (by decide)
  rw [lwX_len (by decide)] at hl
  obtain ⟨S1, h1, h2⟩ := X_work_go (a := u + 20) (kn := gI S (u + 21)) (nm := gI S 53) hl (gI S (u + 20) 2).toNatClampNeg 0 1000 [] S (Nat.zero_add _).symm (by show (gI S (u + 14 + 3 * 2) 2).toNatClampNeg < 1000; omega) trivial (Nat.le_refl _) (nI_back h0).symm (rk_2 h hu) (rp_2 h hu) (lt_21 hu) (lt_22 hu) (fun _ _ => rfl) (fun _ _ => rfl)
  refine ⟨S1, h1, h2.trans ?_⟩
  show _ = some (lawE (runK (gI S 53) (lwX S u 2) []), S1)
  unfold lwX; rw [if_pos (by decide), krow_0]
