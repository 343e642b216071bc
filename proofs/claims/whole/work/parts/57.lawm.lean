/-! ===== laws, as the reference works them out ===== -/
theorem one0 : ¬ (1 : Int32) = 0 := by decide
def isLeaf (k : Int32) : Prop := -k ≤ 0 ∨ (37 ≤ -k ∧ -k ≤ 43)
/-- how high the pile is behind a law -/
def hgt : List Int32 → Nat → Option Nat
  | [], h => some h
  | k :: l, h => if -k ≤ 0 ∨ (37 ≤ -k ∧ -k ≤ 43) then hgt l (h + 1) else if -k = 36 then (if 1 ≤ h then hgt l h else none) else (if 2 ≤ h then hgt l (h - 1) else none)
def sgL : List Int32 := [43, 45, 42, 47, 60, 256, 61, 257, 258, 62, 260, 261, 262]
/-- a knot of the reference is one -/
def okK (s v : Int32) : Prop := (s = 0 ∧ 0 ≤ v ∧ v ≤ 9999) ∨ (s = 1 ∧ 0 ≤ v ∧ v ≤ 6) ∨ (s = 2 ∧ v ∈ sgL)
def F42 (S S1 : MS) : Prop := S1.2.1 = S.2.1 ∧ ∀ o j, ¬ (o = 0 ∧ j = 42) → gI S1 o j = gI S o j
theorem F42.rf {S : MS} : F42 S S := ⟨rfl, fun _ _ _ => rfl⟩
theorem F42.tr {S S1 S2 : MS} (h : F42 S S1) (g : F42 S1 S2) : F42 S S2 := ⟨g.1.trans h.1, fun o j hp => (g.2 o j hp).trans (h.2 o j hp)⟩
theorem F42.pI {S : MS} {v : Int32} : F42 S (pI S 0 42 v) := ⟨rfl, fun o j h => by rw [gI_pI, if_neg h]⟩
theorem F42.pJ {S : MS} {c k : Nat} {v : Int64} : F42 S (pJ S c k v) := ⟨rfl, fun o j h => rfl⟩
theorem pushK_eq {v : Int64} {st : List Int64} : pushK v st = if 0 < lg_cmp v 1000000000000 then none else if lg_cmp v (-1000000000000) < 0 then none else some (v :: st) := by
  unfold pushK LIM
  have h : ∀ x : Int32, (0 ≤ x) ↔ ¬ x < 0 := fun x => by grind
  have := h (lg_cmp v (-1000000000000))
  simp only [this]
  split
  · rfl
  · split
    · rename_i h1; simp [h1]
    · rename_i h1; simp [Classical.not_not.mp h1]
/-- one sign on the pile -/
def OneW (S : MS) (r : List Int64) (v : Int64) (f : Option (Int32 × MS)) : Prop :=
  (∃ S1, f = some (1, S1) ∧ pushK v r = some (v :: r) ∧ PL S1 26 (v :: r) ∧ gI S1 0 42 = nI (r.length + 1) ∧ F42 S S1 ∧ (∀ k, gJ S1 25 k = gJ S 25 k)) ∨ (∃ S1, f = some (0, S1) ∧ pushK v r = none ∧ F42 S S1 ∧ (∀ k, gJ S1 25 k = gJ S 25 k))
theorem M_w407 {S : MS} {r : List Int64} {v : Int64} (hm : MR S) (hr : PL S 26 r) (h42 : gI S 0 42 = nI (r.length + 1)) (hl : r.length < 64) : OneW S r v (fX11_works_407 0 v S) := by
  unfold fX11_works_407
  rw [h42, nI_pred, mr_41 hm, lm_26, bnd_nI hl (by decide), if_pos rfl, nI_clamp (by omega)]
  unfold OneW
  rw [pushK_eq]
  have e25 : ∀ k, gJ (pJ S 26 r.length v) 25 k = gJ S 25 k := fun k => gJ_neo (by decide)
  by_cases c1 : 0 < lg_cmp v 1000000000000
  · rw [if_pos c1, if_pos c1]; exact Or.inr ⟨_, rfl, rfl, F42.pJ, e25⟩
  · rw [if_neg c1, if_neg c1]
    by_cases c2 : lg_cmp v (-1000000000000) < 0
    · rw [if_pos c2, if_pos c2]; exact Or.inr ⟨_, rfl, rfl, F42.pJ, e25⟩
    · rw [if_neg c2, if_neg c2]
      exact Or.inl ⟨_, rfl, rfl, hr.push, h42, F42.pJ, e25⟩
theorem OneW.of {S S1 : MS} {r : List Int64} {v : Int64} {f : Option (Int32 × MS)} (h : OneW S1 r v f) (e : F42 S S1) (ej : ∀ k, gJ S1 25 k = gJ S 25 k) : OneW S r v f := by
  rcases h with ⟨S2, h1, h2, h3, h4, h5, h6⟩ | ⟨S2, h1, h2, h5, h6⟩
  · exact Or.inl ⟨S2, h1, h2, h3, h4, e.tr h5, fun k => (h6 k).trans (ej k)⟩
  · exact Or.inr ⟨S2, h1, h2, e.tr h5, fun k => (h6 k).trans (ej k)⟩
theorem pushK_err {st : List Int64} : pushK ERR st = none := by
  rw [pushK_eq]; rfl
set_option maxHeartbeats 1000000 in
theorem M_works2 {S : MS} {r : List Int64} {a b : Int64} {v : Int32} (hm : MR S) (hr : PL S 26 (b :: a :: r)) (h42 : gI S 0 42 = nI (r.length + 2)) (hl : r.length + 2 ≤ 64) (hv : v ∈ sgL) (h260 : v ≠ 260) : OneW S r (joinK (sgK v) a b) (fX11_works 0 v S) := by
  have e1 : nI (r.length + 2) - 1 = nI (r.length + 1) := nI_pred _
  have e2 : nI (r.length + 2) - 2 = nI r.length := by rw [show r.length + 2 = r.length + 1 + 1 from rfl, ← nI_1, ← nI_1]; exact i_112
  have b1 : bnd (nI (r.length + 1)) 64 = true := bnd_nI (by omega) (by decide)
  have b2 : bnd (nI r.length) 64 = true := bnd_nI (by omega) (by decide)
  have g1 : gJ S 26 (r.length + 1) = b := hr.1
  have g2 : gJ S 26 r.length = a := hr.2.1
  have key : ∀ x : Int64, OneW S r x (fX11_works_407 0 x (pI S 0 42 (nI (r.length + 1)))) := fun x =>
    (M_w407 (S := pI S 0 42 (nI (r.length + 1))) (hm.of rfl) (PL.same (by rfl) hr.2.2) gI_same (by omega)).of F42.pI (fun k => rfl)
  have bad : OneW S r ERR (some (0, pI S 0 42 (nI (r.length + 1)))) := Or.inr ⟨_, rfl, pushK_err, F42.pI, fun k => rfl⟩
  have is1 : ∀ S, fX11_is 1 S = some 1 := fun S => rfl
  have is0 : ∀ S, fX11_is 0 S = some 0 := fun S => rfl
  unfold fX11_works
  rw [h42, mr_41 hm, lm_26, e1, e2, b1, b2, if_pos rfl, if_neg h260, if_pos rfl, nI_clamp (show r.length + 1 < 2 ^ 31 by omega), nI_clamp (show r.length < 2 ^ 31 by omega), g1, g2]
  unfold fX11_works_212 fX11_works_250 fX11_works_290 fX11_works_270 fX11_works_310 fX11_works_350 fX11_works_330 fX11_works_375 fX11_works_376 fX11_works_397 fX11_works_402
  simp only [is1, is0, Option.bind_some]
  have jk : ∀ k, joinK k a b = (fX1_join k a b S00).getD ERR := fun k => rfl
  unfold sgL at hv
  simp only [List.mem_cons, List.not_mem_nil, or_false] at hv
  have hc := @cmp0 a 0
  have hcb := @cmp0 b 0
  have hng := @neg0 a
  rcases hv with rfl | rfl | rfl | rfl | rfl | rfl | rfl | rfl | rfl | rfl | rfl | rfl | rfl
  · rw [jk]; exact key _
  · rw [jk]; exact key _
  · rw [jk]; unfold fX1_join; rw [X_j9]
    simp only [show sgK 42 = 9 from rfl, show ¬ (9 : Int32) = 7 by decide, show ¬ (9 : Int32) = 8 by decide, if_false, if_true]
    by_cases c1 : lg_cmp a 0 = 0
    · rw [if_pos c1, if_pos c1]; exact key _
    · rw [if_neg c1, if_neg c1, if_neg (hng (fun h => c1 (hc.mpr h))), if_neg (hng (fun h => c1 (hc.mpr h)))]
      generalize lg_cmp (if 0 < b then b else -b) (1000000000000 / if 0 < a then a else -a) = z
      by_cases c2 : z ≤ 0
      · rw [if_pos c2, if_pos c2]; exact key _
      · rw [if_neg c2, if_neg c2]; exact bad
  · rw [jk]; unfold fX1_join
    simp only [show sgK 47 = 10 from rfl, show ¬ (10 : Int32) = 7 by decide, show ¬ (10 : Int32) = 8 by decide, show ¬ (10 : Int32) = 9 by decide, if_false, if_true, show ¬ (47 : Int32) = 42 by decide, show ¬ (47 : Int32) = 43 by decide, show ¬ (47 : Int32) = 45 by decide]
    by_cases c1 : lg_cmp b 0 = 0
    · rw [if_pos c1, if_pos c1]; exact bad
    · rw [if_neg c1, if_neg c1, if_neg (fun h => c1 (hcb.mpr h)), if_neg (fun h => c1 (hcb.mpr h))]
      exact key _
  · rw [jk]; unfold fX1_join; simp [sgK]; split <;> exact key _
  · rw [jk]; unfold fX1_join; simp [sgK]; split <;> exact key _
  · rw [jk]; unfold fX1_join; simp [sgK]; split <;> exact key _
  · rw [jk]; unfold fX1_join; simp [sgK]; split <;> exact key _
  · rw [jk]; unfold fX1_join; simp [sgK]; split <;> exact key _
  · rw [jk]; unfold fX1_join; simp [sgK]; split <;> exact key _
  · exact absurd rfl h260
  · rw [jk]; unfold fX1_join; simp [sgK]; split
    · exact key _
    · split <;> exact key _
  · rw [jk]; unfold fX1_join; simp [sgK]; split
    · split <;> exact key _
    · exact key _
theorem lt_ll (x : Int32) {st : List Int64} : pushK x.toInt64 st = some (x.toInt64 :: st) := by
  have h1 := i_rng x
  have e : x.toInt64.toInt = x.toInt := Int32.toInt_toInt64 x
  have a1 : x.toInt64 ≤ 1000000000000 := by rw [Int64.le_iff_toInt_le, e]; show x.toInt ≤ 1000000000000; omega
  have a2 : (-1000000000000 : Int64) ≤ x.toInt64 := by rw [Int64.le_iff_toInt_le, e]; show (-1000000000000 : Int) ≤ x.toInt; omega
  unfold pushK LIM
  rw [if_neg (Int32.not_lt.mpr ((lg_cmp_le _ _).mpr a1)), if_pos ((lg_cmp_ge _ _).mpr a2)]
theorem enK_0 {v : Int32} (h : 0 ≤ v) (h2 : v ≤ 9999) : -(enK 0 v) ≤ 0 ∧ -(-(enK 0 v)) = v := by unfold enK; grind
theorem enK_1 {v : Int32} (h : 0 ≤ v) (h2 : v ≤ 6) : ¬ -(enK 1 v) ≤ 0 ∧ 37 ≤ -(enK 1 v) ∧ -(enK 1 v) ≤ 43 ∧ -(enK 1 v) - 37 = v := by unfold enK; grind
theorem enK_2 {v : Int32} (h : v ∈ sgL) : -(enK 2 v) = sgK v ∧ ¬ -(enK 2 v) ≤ 0 ∧ ¬ (37 ≤ -(enK 2 v) ∧ -(enK 2 v) ≤ 43) ∧ (-(enK 2 v) = 36 ↔ v = 260) := by
  revert v; decide
set_option maxHeartbeats 1000000 in
theorem M_goes_go {k m : Nat} {sq vq nm : Nat → Int32} (hk : k < 6) (hm64 : m ≤ 128) (hok : ∀ i, i < m → okK (sq i) (vq i)) : ∀ (d i fuel : Nat) (st : List Int64) (S : MS), m = i + d → d < fuel → MR S → gI S 22 k = nI m → (∀ j, j < m → gI S 23 j = sq j ∧ gI S 24 j = vq j) → (∀ j, j < 7 → gJ S 25 j = (nm j).toInt64) → PL S 26 st → gI S 0 42 = nI st.length → st.length + d ≤ 64 → hgt (krow (fun i => enK (sq i) (vq i)) i d) st.length ≠ none →
    (∃ S1 st1, fX11_goes_12 fuel 0 (nI k) (nI i) S = some (1, S1) ∧ runK nm (krow (fun i => enK (sq i) (vq i)) i d) st = some st1 ∧ PL S1 26 st1 ∧ F42 S S1 ∧ hgt (krow (fun i => enK (sq i) (vq i)) i d) st.length = some st1.length) ∨ (∃ S1, fX11_goes_12 fuel 0 (nI k) (nI i) S = some (0, S1) ∧ runK nm (krow (fun i => enK (sq i) (vq i)) i d) st = none ∧ F42 S S1) := by
  intro d
  induction d with
  | zero =>
    intro i fuel st S e1 e2 hM h22 hkn hnm hp h42 hl hh
    obtain ⟨f, rfl⟩ : ∃ f, fuel = f + 1 := ⟨fuel - 1, by omega⟩
    refine Or.inl ⟨S, st, ?_, rfl, hp, F42.rf, rfl⟩
    unfold fX11_goes_12
    rw [mr_23 hM, lm_22, bnd_nI hk (by decide), if_pos rfl, nI_clamp (by omega), h22, e1, Nat.add_zero, if_pos (Int32.le_refl _)]
  | succ d ih =>
    intro i fuel st S e1 e2 hM h22 hkn hnm hp h42 hl hh
    obtain ⟨f, rfl⟩ : ∃ f, fuel = f + 1 := ⟨fuel - 1, by omega⟩
    rw [krow_s] at hh ⊢
    have him : i < m := by omega
    have hki := hkn i him
    have go : ∀ (S1 : MS) (v : Int64) (r : List Int64), F42 S S1 → (∀ j, gJ S1 25 j = gJ S 25 j) → PL S1 26 (v :: r) → gI S1 0 42 = nI (r.length + 1) → r.length + 1 + d ≤ 64 → hgt (krow (fun i => enK (sq i) (vq i)) (i + 1) d) (r.length + 1) ≠ none →
        (∃ S2 st1, fX11_goes_96 (fX11_goes_12 f) 0 (nI k) (nI i) S1 = some (1, S2) ∧ runK nm (krow (fun i => enK (sq i) (vq i)) (i + 1) d) (v :: r) = some st1 ∧ PL S2 26 st1 ∧ F42 S S2 ∧ hgt (krow (fun i => enK (sq i) (vq i)) (i + 1) d) (r.length + 1) = some st1.length) ∨ (∃ S2, fX11_goes_96 (fX11_goes_12 f) 0 (nI k) (nI i) S1 = some (0, S2) ∧ runK nm (krow (fun i => enK (sq i) (vq i)) (i + 1) d) (v :: r) = none ∧ F42 S S2) := by
      intro S1 v r hF hj hP h42' hl' hh'
      unfold fX11_goes_96
      rw [nI_1]
      have g : ∀ o j, o ≠ 0 → gI S1 o j = gI S o j := fun o j ho => hF.2 o j (fun h => ho h.1)
      rcases ih (i + 1) f (v :: r) S1 (by omega) (by omega) (hM.of hF.1) (by rw [g 22 k (by decide)]; exact h22) (fun j hj' => by rw [g 23 j (by decide), g 24 j (by decide)]; exact hkn j hj') (fun j hj' => by rw [hj]; exact hnm j hj') hP h42' hl' hh' with ⟨S2, st1, q1, q2, q3, q4, q5⟩ | ⟨S2, q1, q2, q3⟩
      · exact Or.inl ⟨S2, st1, q1, q2, q3, hF.tr q4, q5⟩
      · exact Or.inr ⟨S2, q1, q2, hF.tr q3⟩
    unfold fX11_goes_12
    have hin : ¬ nI m ≤ nI i := by rw [nI_leI (by omega) (by omega)]; omega
    rw [mr_23 hM, mr_24 hM, mr_25 hM, mr_40 hM, mr_41 hM, lm_22, lm_23, lm_24, lm_25, bnd_nI hk (by decide), if_pos rfl, nI_clamp (show k < 2 ^ 31 by omega), h22, if_neg hin, bnd_nI (show i < 128 by omega) (by decide), if_pos rfl, nI_clamp (show i < 2 ^ 31 by omega), hki.1, hki.2]
    simp only [runK]
    rcases hok i him with ⟨hs, h0, h1⟩ | ⟨hs, h0, h1⟩ | ⟨hs, hv⟩
    · -- a number
      have q := enK_0 h0 h1
      rw [hs]; simp only [show ¬ (0 : Int32) = 2 by decide, if_false, if_true]
      rw [hs] at hh
      have e : stepK nm (enK 0 (vq i)) st = some ((vq i).toInt64 :: st) := by
        unfold stepK; rw [if_pos q.1, q.2, lt_ll]
      rw [e, Option.bind_some]
      have hh2 : hgt (krow (fun i => enK (sq i) (vq i)) (i + 1) d) (st.length + 1) ≠ none := by
        unfold hgt at hh; rw [if_pos (Or.inl q.1)] at hh; exact hh
      have hge : hgt (enK 0 (vq i) :: krow (fun i => enK (sq i) (vq i)) (i + 1) d) st.length = hgt (krow (fun i => enK (sq i) (vq i)) (i + 1) d) (st.length + 1) := by
        rw [show hgt (enK 0 (vq i) :: krow (fun i => enK (sq i) (vq i)) (i + 1) d) st.length = _ from rfl]; unfold hgt; rw [if_pos (Or.inl q.1)]; cases krow (fun i => enK (sq i) (vq i)) (i + 1) d <;> rfl
      rw [hge]
      unfold fX11_goes_85
      rw [lm_26, h42, bnd_nI (by omega) (by decide), if_pos rfl, nI_clamp (by omega), gI_pJ, h42, nI_1]
      exact go _ _ st (F42.pJ.tr F42.pI) (fun j => by rw [gJ_pI]; exact gJ_neo (by decide)) (PL.same (by rfl) hp.push) gI_same (by omega) hh2
    · -- a name
      have q := enK_1 h0 h1
      rw [hs]; simp only [show ¬ (1 : Int32) = 2 by decide, show ¬ (1 : Int32) = 0 by decide, if_false, if_true]
      rw [hs] at hh
      have hc7 : (vq i).toNatClampNeg < 7 := clamp_lt h0 (show vq i < nI 7 from by show vq i < 7; exact i67 h1) (by decide)
      have hb7 : bnd (vq i) 7 = true := bnd_of h0 (by rw [← clamp_toInt h0]; omega)
      have e : stepK nm (enK 1 (vq i)) st = some ((nm (vq i).toNatClampNeg).toInt64 :: st) := by
        unfold stepK; rw [if_neg q.1, if_pos ⟨q.2.1, q.2.2.1⟩, q.2.2.2, lt_ll]
      rw [e, Option.bind_some, if_pos hb7, hnm _ hc7]
      have hh2 : hgt (krow (fun i => enK (sq i) (vq i)) (i + 1) d) (st.length + 1) ≠ none := by
        unfold hgt at hh; rw [if_pos (Or.inr ⟨q.2.1, q.2.2.1⟩)] at hh; exact hh
      have hge : hgt (enK 1 (vq i) :: krow (fun i => enK (sq i) (vq i)) (i + 1) d) st.length = hgt (krow (fun i => enK (sq i) (vq i)) (i + 1) d) (st.length + 1) := by
        rw [show hgt (enK 1 (vq i) :: krow (fun i => enK (sq i) (vq i)) (i + 1) d) st.length = _ from rfl]; unfold hgt; rw [if_pos (Or.inr ⟨q.2.1, q.2.2.1⟩)]; cases krow (fun i => enK (sq i) (vq i)) (i + 1) d <;> rfl
      rw [hge]
      unfold fX11_goes_85
      rw [lm_26, h42, bnd_nI (by omega) (by decide), if_pos rfl, nI_clamp (by omega), gI_pJ, h42, nI_1]
      exact go _ _ st (F42.pJ.tr F42.pI) (fun j => by rw [gJ_pI]; exact gJ_neo (by decide)) (PL.same (by rfl) hp.push) gI_same (by omega) hh2
    · -- a sign
      have q := enK_2 hv
      rw [hs]; simp only [if_true]
      rw [hs] at hh
      unfold hgt at hh
      rw [if_neg (fun h => h.elim q.2.1 q.2.2.1)] at hh
      have hge : hgt (enK 2 (vq i) :: krow (fun i => enK (sq i) (vq i)) (i + 1) d) st.length = if -(enK 2 (vq i)) = 36 then (if 1 ≤ st.length then hgt (krow (fun i => enK (sq i) (vq i)) (i + 1) d) st.length else none) else (if 2 ≤ st.length then hgt (krow (fun i => enK (sq i) (vq i)) (i + 1) d) (st.length - 1) else none) := by
        generalize krow (fun i => enK (sq i) (vq i)) (i + 1) d = l
        show (if _ then _ else _) = _
        rw [if_neg (fun h => h.elim q.2.1 q.2.2.1)]
      by_cases c1 : vq i = 260
      · have c36 := q.2.2.2.mpr c1
        rw [hge, if_pos c36]
        rw [if_pos c36] at hh
        match st, hp, h42, hl, hh with
        | [], hp, h42, hl, hh => exact absurd rfl hh
        | b :: r, hp, h42, hl, hh =>
          have hl : r.length + 1 + (d + 1) ≤ 64 := hl
          have h42 : gI S 0 42 = nI (r.length + 1) := h42
          rw [if_pos (show 1 ≤ (b :: r).length by simp)] at hh ⊢
          have e : stepK nm (enK 2 (vq i)) (b :: r) = some ((if b = 0 then 1 else 0) :: r) := by
            unfold stepK; rw [if_neg q.2.1, if_neg q.2.2.1, if_pos c36]
            by_cases hb : b = 0
            · simp only [hb, if_true]; exact lt_ll 1
            · simp only [hb, if_false]; exact lt_ll 0
          rw [e, Option.bind_some]
          have ew : fX11_works 0 (vq i) S = some (1, pJ S 26 r.length (if b = 0 then 1 else 0)) := by
            unfold fX11_works
            rw [h42, nI_pred, mr_41 hM, lm_26, bnd_nI (by omega) (by decide), if_pos rfl, if_pos c1, nI_clamp (by omega), hp.1]
            unfold fX11_works_40 fX11_is
            rw [lm_26, bnd_nI (by omega) (by decide), nI_clamp (by omega)]
            by_cases hb : b = 0
            · rw [if_pos (cmp0.mpr hb), if_neg (by decide), Option.bind_some, if_pos rfl, if_pos hb]
            · rw [if_neg (fun h => hb (cmp0.mp h)), if_pos rfl, Option.bind_some, if_pos rfl, if_neg hb]
          rw [ew]; simp only [Option.bind_some, one0, if_false]
          exact go _ _ r F42.pJ (fun j => gJ_neo (by decide)) (PL.push hp.2) h42 (by omega) hh
      · have c36 : ¬ -(enK 2 (vq i)) = 36 := fun h => c1 (q.2.2.2.mp h)
        rw [hge, if_neg c36]
        rw [if_neg c36] at hh
        match st, hp, h42, hl, hh with
        | [], hp, h42, hl, hh => exact absurd rfl hh
        | [b], hp, h42, hl, hh => exact absurd rfl hh
        | b :: a :: r, hp, h42, hl, hh =>
          have hl : r.length + 1 + 1 + (d + 1) ≤ 64 := hl
          have h42 : gI S 0 42 = nI (r.length + 2) := h42
          rw [if_pos (show 2 ≤ (b :: a :: r).length by simp)] at hh ⊢
          have e : stepK nm (enK 2 (vq i)) (b :: a :: r) = pushK (joinK (sgK (vq i)) a b) r := by
            unfold stepK; rw [if_neg q.2.1, if_neg q.2.2.1, if_neg c36, q.1]
          rw [e]
          rcases M_works2 hM hp h42 (by omega) hv c1 with ⟨S1, q1, q2, q3, q4, q5, q6⟩ | ⟨S1, q1, q2, q5, q6⟩
          · rw [q1, q2]; simp only [Option.bind_some, one0, if_false]
            exact go S1 _ r q5 q6 q3 q4 (by omega) hh
          · rw [q1, q2, Option.bind_some, if_pos rfl]
            exact Or.inr ⟨S1, rfl, rfl, q5⟩
theorem pushK_ok {v : Int64} {st st1 : List Int64} (h : pushK v st = some st1) : st1 = v :: st ∧ pushK v [] ≠ none := by
  unfold pushK at h ⊢
  split at h
  · cases h
  · rename_i h1
    rw [if_neg h1]
    split at h
    · rename_i h2; cases h; rw [if_pos h2]; exact ⟨rfl, by simp⟩
    · cases h
theorem runK_ok {nm : Nat → Int32} : ∀ (l : List Int32) (st st1 : List Int64), (∀ v ∈ st, pushK v [] ≠ none) → runK nm l st = some st1 → ∀ v ∈ st1, pushK v [] ≠ none
  | [], st, st1, h, e => by simp only [runK, Option.some.injEq] at e; rw [← e]; exact h
  | k :: l, st, st1, h, e => by
    simp only [runK] at e
    obtain ⟨st2, h1, h2⟩ := Option.bind_eq_some_iff.mp e
    refine runK_ok l st2 st1 ?_ h2
    have key : ∀ (x : Int64) (r : List Int64), (∀ v ∈ r, pushK v [] ≠ none) → pushK x r = some st2 → ∀ v ∈ st2, pushK v [] ≠ none := by
      intro x r hr hx v hv
      obtain ⟨e1, e2⟩ := pushK_ok hx
      rw [e1] at hv
      rcases List.mem_cons.mp hv with rfl | hv
      · exact e2
      · exact hr v hv
    unfold stepK at h1
    split at h1
    · exact key _ st h h1
    · split at h1
      · exact key _ st h h1
      · split at h1
        · match st, h, h1 with
          | [], h, h1 => cases h1
          | a :: r, h, h1 => exact key _ r (fun v hv => h v (List.mem_cons_of_mem _ hv)) h1
        · match st, h, h1 with
          | [], h, h1 => cases h1
          | [b], h, h1 => cases h1
          | b :: a :: r, h, h1 => exact key _ r (fun v hv => h v (List.mem_cons_of_mem _ (List.mem_cons_of_mem _ hv))) h1
/-- the laws that are told are laws -/
def WH (T : TT) : Prop := ∀ k, k < 3 → lwl T k = [] ∨ hgt (lwl T k) 0 = some 1
/-- the rows of the reference's laws -/
def WKM (S : MS) : Prop := ∀ k, k < 3 → 0 ≤ gI S 21 k ∧ gI S 21 k ≤ gI S 22 k ∧ gI S 22 k ≤ 64 ∧ ∀ i, i < (gI S 22 k).toNatClampNeg → okK (gI S 23 i) (gI S 24 i)
theorem lwM_eq {S : MS} {k a m : Nat} (hk : k < 3) (ha : gI S 21 k = nI a) (hm : gI S 22 k = nI m) (h1 : a ≤ m) (h2 : m ≤ 64) : lwl (tM S) k = krow (fun i => enK (gI S 23 i) (gI S 24 i)) a (m - a) := by
  show lwM S k = _
  unfold lwM krow
  rw [if_pos hk, ha, hm, nI_clamp (by omega), nI_clamp (by omega), List.range'_eq_map_range, List.map_map]
  rfl
theorem M_goes {S : MS} {k : Nat} {nm : Nat → Int32} (hM : MR S) (hk : k < 3) (hw : WKM S) (hh : hgt (lwl (tM S) k) 0 = some 1) (hnm : ∀ j, j < 7 → gJ S 25 j = (nm j).toInt64) :
    ∃ S1, F42 S S1 ∧ ((fX11_goes 0 (nI k) S = some (1, S1) ∧ gJ S1 26 0 = lawV (lwl (tM S) k) nm ∧ lawV (lwl (tM S) k) nm ≠ ERR) ∨ (fX11_goes 0 (nI k) S = some (0, S1) ∧ lawV (lwl (tM S) k) nm = ERR)) := by
  obtain ⟨w1, w2, w3, w4⟩ := hw k hk
  obtain ⟨a, ha, ea⟩ := nI_of (Int32.not_lt.mpr w1)
  obtain ⟨m, hm, em⟩ := nI_of (Int32.not_lt.mpr (Int32.le_trans w1 w2))
  rw [ea, em, nI_leI ha hm] at w2
  rw [em, show (64 : Int32) = nI 64 from rfl, nI_leI hm (by decide)] at w3
  rw [em, nI_clamp hm] at w4
  have el := lwM_eq hk ea em w2 w3
  rw [el] at hh ⊢
  have e0 : fX11_goes 0 (nI k) S = fX11_goes_12 1000 0 (nI k) (nI a) (pI S 0 42 0) := by
    unfold fX11_goes
    rw [gR_pI, mr_22 hM, lm_21, bnd_nI (by omega) (by decide), if_pos rfl, nI_clamp (by omega), gI_neo (by decide), ea]
  rw [e0]
  rcases M_goes_go (k := k) (m := m) (sq := gI S 23) (vq := gI S 24) (nm := nm) (by omega) (by omega) w4 (m - a) a 1000 [] (pI S 0 42 0) (by omega) (by omega) (hM.of rfl) (by rw [gI_neo (by decide)]; exact em) (fun j _ => ⟨gI_neo (by decide), gI_neo (by decide)⟩) (fun j hj => by rw [gJ_pI]; exact hnm j hj) trivial gI_same (by simp; omega) (by simp; rw [hh]; simp) with ⟨S1, st1, q1, q2, q3, q4, q5⟩ | ⟨S1, q1, q2, q3⟩
  · refine ⟨S1, F42.pI.tr q4, Or.inl ⟨q1, ?_⟩⟩
    have hl1 : st1.length = 1 := by
      simp only [List.length_nil] at q5
      rw [hh] at q5; exact (Option.some.inj q5).symm
    match st1, hl1, q2, q3 with
    | [v], _, q2, q3 =>
      have hv := runK_ok _ _ _ (fun v hv => by cases hv) q2 v (List.mem_singleton.mpr rfl)
      unfold lawV; rw [q2]
      refine ⟨q3.1, fun h => hv ?_⟩
      have h : v = ERR := h
      rw [h]; exact pushK_err
  · refine ⟨S1, F42.pI.tr q3, Or.inr ⟨q1, ?_⟩⟩
    unfold lawV; rw [q2]; rfl
/-- a law's number within bounds -/
def wthn (l : List Int32) (nm : Nat → Int32) (most without : Int32) : Int32 :=
  if lawV l nm = ERR then without else (if (if lawV l nm < most.toInt64 then lawV l nm else most.toInt64) < 0 then (0 : Int64) else (if lawV l nm < most.toInt64 then lawV l nm else most.toInt64)).toInt32
theorem M_hasLaw {S : MS} {k : Nat} (hM : MR S) (hk : k < 3) (hw : WKM S) : fX11_hasLaw 0 (nI k) S = some (b2i (decide (lwl (tM S) k ≠ []))) := by
  obtain ⟨w1, w2, w3, w4⟩ := hw k hk
  obtain ⟨a, ha, ea⟩ := nI_of (Int32.not_lt.mpr w1)
  obtain ⟨m, hm, em⟩ := nI_of (Int32.not_lt.mpr (Int32.le_trans w1 w2))
  rw [ea, em, nI_leI ha hm] at w2
  rw [em, show (64 : Int32) = nI 64 from rfl, nI_leI hm (by decide)] at w3
  have el := lwM_eq hk ea em w2 w3
  unfold fX11_hasLaw
  rw [mr_22 hM, mr_23 hM, lm_21, lm_22, bnd_nI (by omega) (by decide), if_pos rfl, if_pos rfl, nI_clamp (by omega), ea, em, el]
  have e : krow (fun i => enK (gI S 23 i) (gI S 24 i)) a (m - a) = [] ↔ m ≤ a := by unfold krow; simp; omega
  simp only [nI_leI hm ha, ne_eq, e]
  by_cases c : m ≤ a <;> simp [c, b2i]
theorem M_within {S : MS} {k : Nat} {nm : Nat → Int32} {most without : Int32} (hM : MR S) (hk : k < 3) (hw : WKM S) (hh : WH (tM S)) (hnm : ∀ j, j < 7 → gJ S 25 j = (nm j).toInt64) : ∃ S1, F42 S S1 ∧ fX11_within 0 (nI k) most without S = some (wthn (lwl (tM S) k) nm most without, S1) := by
  unfold fX11_within
  rw [M_hasLaw hM hk hw, Option.bind_some]
  by_cases he : lwl (tM S) k = []
  · refine ⟨S, F42.rf, ?_⟩
    rw [if_pos (by simp [he, b2i])]
    unfold wthn; rw [he, if_pos (show lawV [] nm = ERR from rfl)]
  · rw [if_neg (by simp [he, b2i])]
    have hh1 := (hh k hk).resolve_left he
    obtain ⟨S1, hF, ⟨q1, q2, q3⟩ | ⟨q1, q2⟩⟩ := M_goes hM hk hw hh1 hnm
    · refine ⟨S1, hF, ?_⟩
      rw [q1]; simp only [Option.bind_some, one0, if_false]
      rw [mr_41 (hM.of hF.1), lm_26, show bnd (0 : Int32) 64 = true from rfl, if_pos rfl, show (0 : Int32).toNatClampNeg = 0 from rfl, q2]
      unfold wthn; rw [if_neg q3]
    · refine ⟨S1, hF, ?_⟩
      rw [q1]; simp only [Option.bind_some, if_true]
      unfold wthn; rw [if_pos q2]
