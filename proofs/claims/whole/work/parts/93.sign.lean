/-! ===== one sign of the text, both sides ===== -/
def kf (x y : Int32) : Int32 := if x = 40 then 5 else if x = 41 then 6 else if x = 42 then 9 else if x = 43 then 7 else if x = 45 then 8 else if x = 47 then 10 else if x = 59 then 4 else if x = 60 then (if y = 61 then 12 else (if y = 62 then 14 else 11)) else if x = 61 then 13 else if x = 62 then (if y = 61 then 15 else 16) else 1
def lg2 (k : Int32) : Bool := decide (k = 12 ∨ k = 14 ∨ k = 15)
theorem X_s44 {x y : Int32} {S : MS} : fX5_scanSign_44 48 x y S = some (if lg2 (kf x y) = true then pI (pI S 48 5 (kf x y)) 48 4 (gI S 48 4 + 1) else pI S 48 5 (kf x y)) := by
  have plain : ∀ k : Int32, lg2 k = false → fX5_scanSign_278 48 (pI S 48 5 k) = some (if lg2 k = true then pI (pI S 48 5 k) 48 4 (gI S 48 4 + 1) else pI S 48 5 k) := fun k hk => by
    have hn := of_decide_eq_false hk
    unfold fX5_scanSign_278
    rw [gI_same, if_neg (fun e => hn (Or.inl e)), if_neg (fun e => hn (Or.inr (Or.inl e))), if_neg (fun e => hn (Or.inr (Or.inr e))), hk, if_neg (by decide)]
  have long_ : ∀ k : Int32, lg2 k = true → fX5_scanSign_278 48 (pI S 48 5 k) = some (if lg2 k = true then pI (pI S 48 5 k) 48 4 (gI S 48 4 + 1) else pI S 48 5 k) := fun k hk => by
    unfold fX5_scanSign_278 fX5_scanSign_305
    rw [gI_same, hk, if_pos rfl, gI_nek (show (4 : Nat) ≠ 5 by decide)]
    rcases of_decide_eq_true hk with e | e | e
    · rw [if_pos e]
    · by_cases c : k = 12
      · rw [if_pos c]
      · rw [if_neg c, if_pos e]
    · by_cases c : k = 12
      · rw [if_pos c]
      · rw [if_neg c]
        by_cases c : k = 14
        · rw [if_pos c]
        · rw [if_neg c, if_pos e]
  unfold fX5_scanSign_44 fX5_scanSign_238 fX5_scanSign_267 fX5_scanSign_273 kf
  by_cases c40 : x = 40
  · rw [if_pos c40, if_pos c40]; exact plain 5 (by decide)
  rw [if_neg c40, if_neg c40]
  by_cases c41 : x = 41
  · rw [if_pos c41, if_pos c41]; exact plain 6 (by decide)
  rw [if_neg c41, if_neg c41]
  by_cases c42 : x = 42
  · rw [if_pos c42, if_pos c42]; exact plain 9 (by decide)
  rw [if_neg c42, if_neg c42]
  by_cases c43 : x = 43
  · rw [if_pos c43, if_pos c43]; exact plain 7 (by decide)
  rw [if_neg c43, if_neg c43]
  by_cases c45 : x = 45
  · rw [if_pos c45, if_pos c45]; exact plain 8 (by decide)
  rw [if_neg c45, if_neg c45]
  by_cases c47 : x = 47
  · rw [if_pos c47, if_pos c47]; exact plain 10 (by decide)
  rw [if_neg c47, if_neg c47]
  by_cases c59 : x = 59
  · rw [if_pos c59, if_pos c59]; exact plain 4 (by decide)
  rw [if_neg c59, if_neg c59]
  by_cases c60 : x = 60
  · rw [if_pos c60, if_pos c60]
    by_cases d1 : y = 61
    · rw [if_pos d1, if_pos d1]; exact long_ 12 (by decide)
    · rw [if_neg d1, if_neg d1]
      by_cases d2 : y = 62
      · rw [if_pos d2, if_pos d2]; exact long_ 14 (by decide)
      · rw [if_neg d2, if_neg d2]; exact plain 11 (by decide)
  rw [if_neg c60, if_neg c60]
  by_cases c61 : x = 61
  · rw [if_pos c61, if_pos c61]; exact plain 13 (by decide)
  rw [if_neg c61, if_neg c61]
  by_cases c62 : x = 62
  · rw [if_pos c62, if_pos c62]
    by_cases d1 : y = 61
    · rw [if_pos d1, if_pos d1]; exact long_ 15 (by decide)
    · rw [if_neg d1, if_neg d1]; exact plain 16 (by decide)
  rw [if_neg c62, if_neg c62]
  exact plain 1 (by decide)
theorem kf_congr {x y z : Int32} (h1 : y = 61 ↔ z = 61) (h2 : y = 62 ↔ z = 62) : kf x y = kf x z := by
  unfold kf; simp only [h1, h2]
theorem X_sign {t n a : Nat} {bt : Nat → Nat} {S : MS} (h : XL t n bt S) (hp : gI S 48 4 = nI a) (ha : a < n) : ∃ S1, fX5_scanSign 48 S = some S1 ∧ gI S1 48 5 = kf (sb (bt a)) (if a + 1 < n then sb (bt (a + 1)) else 0) ∧ gI S1 48 4 = nI (if lg2 (kf (sb (bt a)) (if a + 1 < n then sb (bt (a + 1)) else 0)) = true then a + 2 else a + 1) ∧ gI S1 48 7 = gI S 48 7 ∧ gI S1 48 8 = gI S 48 8 ∧ gI S1 48 6 = gI S 48 6 ∧ Fr NX S S1 := by
  have hn := h.2.2.2.2.1
  obtain ⟨b1, b2⟩ := h.2.2.2.2.2 a ha
  have core : ∀ y : Int32, ∃ S1, fX5_scanSign_44 48 (sb (bt a)) y (pI S 48 4 (nI (a + 1))) = some S1 ∧ gI S1 48 5 = kf (sb (bt a)) y ∧ gI S1 48 4 = nI (if lg2 (kf (sb (bt a)) y) = true then a + 2 else a + 1) ∧ gI S1 48 7 = gI S 48 7 ∧ gI S1 48 8 = gI S 48 8 ∧ gI S1 48 6 = gI S 48 6 ∧ Fr NX S S1 := by
    intro y
    rw [X_s44]
    cases lg2 (kf (sb (bt a)) y) with
    | true =>
      rw [if_pos rfl, gI_same, nI_1, if_pos rfl]
      refine ⟨_, rfl, ?_, gI_same, ?_, ?_, ?_, ((Fr.rf.pI ⟨rfl, by decide, by decide⟩).pI ⟨rfl, by decide, by decide⟩).pI ⟨rfl, by decide, by decide⟩⟩
      · rw [gI_nek (by decide), gI_same]
      · rw [gI_nek (by decide), gI_nek (by decide), gI_nek (by decide)]
      · rw [gI_nek (by decide), gI_nek (by decide), gI_nek (by decide)]
      · rw [gI_nek (by decide), gI_nek (by decide), gI_nek (by decide)]
    | false =>
      rw [if_neg (by decide), if_neg (by decide)]
      refine ⟨_, rfl, gI_same, ?_, ?_, ?_, ?_, (Fr.rf.pI ⟨rfl, by decide, by decide⟩).pI ⟨rfl, by decide, by decide⟩⟩
      · rw [gI_nek (by decide), gI_same]
      · rw [gI_nek (by decide), gI_nek (by decide)]
      · rw [gI_nek (by decide), gI_nek (by decide)]
      · rw [gI_nek (by decide), gI_nek (by decide)]
  unfold fX5_scanSign
  rw [hp, h.2.2.1, lx_1, bnd_nI (show a < 700 by omega) (by decide), if_pos rfl, nI_clamp (by omega), b2, nI_1, gI_same, gI_nek (by decide), h.2.2.2.1, gR_pI, h.2.2.1]
  by_cases c : a + 1 < n
  · obtain ⟨c1, c2⟩ := h.2.2.2.2.2 (a + 1) c
    rw [if_neg (nle (by omega) c), lx_1, bnd_nI (show a + 1 < 700 by omega) (by decide), if_pos rfl, nI_clamp (by omega), gI_neo (by decide), c2, if_pos c]
    exact core _
  · rw [if_pos ((nI_leI (by omega) (by omega)).mpr (by omega)), if_neg c]
    exact core 0
def isSg (x : Int32) : Bool := decide (x = 59 ∨ x = 40 ∨ x = 41 ∨ x = 43 ∨ x = 45 ∨ x = 42 ∨ x = 47 ∨ x = 60 ∨ x = 61 ∨ x = 62)
def mva (x h : Int32) : Int32 := if x = 60 then (if h = 61 then 256 else if h = 62 then 257 else 60) else if x = 62 then (if h = 61 then 258 else 62) else x
theorem here_p {S : MS} {j : Nat} {v : Int32} (h : j ≠ 29 ∧ j ≠ 30) (hM : MR S) : fX11_here 0 (pI S 0 j v) = fX11_here 0 S := by
  unfold fX11_here
  rw [gI_nek (fun e => h.1 e.symm), gI_nek (fun e => h.2 e.symm), gR_pI, mr_1 hM, gI_neo (by decide)]
theorem M_sign {S : MS} {x h : Int32} (hM : MR S) (hx : x < 256) (hh : fX11_here 0 (pI S 0 30 (gI S 0 30 + 1)) = some h) :
    ∃ S1, fX11_sign 0 x S = some S1 ∧ gI S1 0 32 = (if isSg x = true then 3 else 5) ∧ gI S1 0 33 = mva x h ∧ gI S1 0 30 = (if mva x h < 256 then gI S 0 30 + 1 else gI S 0 30 + 1 + 1) ∧ gI S1 0 31 = gI S 0 31 ∧ Fr NM S S1 := by
  have hM1 : MR (pI S 0 30 (gI S 0 30 + 1)) := hM.of rfl
  have p : ∀ j, 30 ≤ j → j ≤ 33 → NM 0 j := fun j a b => ⟨rfl, a, b⟩
  have core : ∀ so : Int32, ∃ S1, fX11_sign_76 0 x 0 so (pI S 0 30 (gI S 0 30 + 1)) = some S1 ∧ gI S1 0 32 = so ∧ gI S1 0 33 = mva x h ∧ gI S1 0 30 = (if mva x h < 256 then gI S 0 30 + 1 else gI S 0 30 + 1 + 1) ∧ gI S1 0 31 = gI S 0 31 ∧ Fr NM S S1 := by
    intro so
    have fin : ∀ S2 : MS, gI S2 0 32 = so → gI S2 0 33 = mva x h → gI S2 0 30 = gI S 0 30 + 1 → gI S2 0 31 = gI S 0 31 → Fr NM S S2 → ∃ S1, fX11_sign_150 0 S2 = some S1 ∧ gI S1 0 32 = so ∧ gI S1 0 33 = mva x h ∧ gI S1 0 30 = (if mva x h < 256 then gI S 0 30 + 1 else gI S 0 30 + 1 + 1) ∧ gI S1 0 31 = gI S 0 31 ∧ Fr NM S S1 := by
      intro S2 a1 a2 a3 a4 a5
      unfold fX11_sign_150
      rw [a2]
      by_cases c : mva x h < 256
      · rw [if_pos c, if_pos c]; exact ⟨S2, rfl, a1, a2, a3, a4, a5⟩
      · rw [if_neg c, if_neg c]
        exact ⟨_, rfl, by rw [gI_nek (by decide)]; exact a1, by rw [gI_nek (by decide)]; exact a2, by rw [gI_same, a3], by rw [gI_nek (by decide)]; exact a4, a5.pI (p 30 (by decide) (by decide))⟩
    have f2 : Fr NM S (pI (pI (pI S 0 30 (gI S 0 30 + 1)) 0 32 so) 0 33 x) := ((Fr.rf.pI (p 30 (by decide) (by decide))).pI (p 32 (by decide) (by decide))).pI (p 33 (by decide) (by decide))
    have hM2 : MR (pI (pI S 0 30 (gI S 0 30 + 1)) 0 32 so) := hM.of rfl
    have hM3 : MR (pI (pI (pI S 0 30 (gI S 0 30 + 1)) 0 32 so) 0 33 x) := hM.of rfl
    have h2 : fX11_here 0 (pI (pI (pI S 0 30 (gI S 0 30 + 1)) 0 32 so) 0 33 x) = some h := by rw [here_p (by decide) hM2, here_p (by decide) hM1, hh]
    have h3 : ∀ v, fX11_here 0 (pI (pI (pI (pI S 0 30 (gI S 0 30 + 1)) 0 32 so) 0 33 x) 0 33 v) = some h := fun v => by rw [here_p (by decide) hM3, h2]
    have g32 : gI (pI (pI (pI S 0 30 (gI S 0 30 + 1)) 0 32 so) 0 33 x) 0 32 = so := by rw [gI_nek (by decide), gI_same]
    have g30 : gI (pI (pI (pI S 0 30 (gI S 0 30 + 1)) 0 32 so) 0 33 x) 0 30 = gI S 0 30 + 1 := by rw [gI_nek (by decide), gI_nek (by decide), gI_same]
    have g31 : gI (pI (pI (pI S 0 30 (gI S 0 30 + 1)) 0 32 so) 0 33 x) 0 31 = gI S 0 31 := by rw [gI_nek (by decide), gI_nek (by decide), gI_nek (by decide)]
    have g33 : gI (pI (pI (pI S 0 30 (gI S 0 30 + 1)) 0 32 so) 0 33 x) 0 33 = x := gI_same
    have fin3 : ∀ v, v = mva x h → ∃ S1, fX11_sign_150 0 (pI (pI (pI (pI S 0 30 (gI S 0 30 + 1)) 0 32 so) 0 33 x) 0 33 v) = some S1 ∧ gI S1 0 32 = so ∧ gI S1 0 33 = mva x h ∧ gI S1 0 30 = (if mva x h < 256 then gI S 0 30 + 1 else gI S 0 30 + 1 + 1) ∧ gI S1 0 31 = gI S 0 31 ∧ Fr NM S S1 := fun v hv =>
      fin _ (by rw [gI_nek (by decide)]; exact g32) (by rw [gI_same]; exact hv) (by rw [gI_nek (by decide)]; exact g30) (by rw [gI_nek (by decide)]; exact g31) (f2.pI (p 33 (by decide) (by decide)))
    unfold fX11_sign_76 fX11_sign_106 fX11_sign_128
    by_cases c60 : x = 60
    · have n62 : ¬ x = 62 := by rw [c60]; decide
      rw [if_pos c60, h2, Option.bind_some]
      simp only [c60, if_true, show ¬ (60 : Int32) = 62 by decide, if_false]
      simp only [c60] at h2 h3 g32 g30 g31 g33 fin3 f2 fin
      by_cases d1 : h = 61
      · rw [if_pos d1, h3, Option.bind_some, if_neg (by rw [d1]; decide)]
        exact fin3 256 (by unfold mva; rw [if_pos rfl, if_pos d1])
      · rw [if_neg d1, Option.bind_some]
        by_cases d2 : h = 62
        · rw [if_pos d2]
          exact fin3 257 (by unfold mva; rw [if_pos rfl, if_neg d1, if_pos d2])
        · rw [if_neg d2]
          exact fin _ g32 (by rw [g33]; unfold mva; rw [if_pos rfl, if_neg d1, if_neg d2]) g30 g31 f2
    · rw [if_neg c60, if_neg c60]
      by_cases c62 : x = 62
      · rw [if_pos c62, h2, Option.bind_some]
        by_cases d1 : h = 61
        · rw [if_pos d1]
          exact fin3 258 (by unfold mva; rw [if_neg c60, if_pos c62, if_pos d1])
        · rw [if_neg d1]
          exact fin _ g32 (by rw [g33]; unfold mva; rw [if_neg c60, if_pos c62, if_neg d1]; exact c62) g30 g31 f2
      · rw [if_neg c62]
        exact fin _ g32 (by rw [g33]; unfold mva; rw [if_neg c60, if_neg c62]) g30 g31 f2
  unfold fX11_sign fX11_sign_71
  by_cases c59 : x = 59
  · rw [if_pos c59, show isSg x = true from decide_eq_true (Or.inl c59), if_pos rfl]; exact core 3
  rw [if_neg c59]
  by_cases c40 : x = 40
  · rw [if_pos c40, show isSg x = true from decide_eq_true (Or.inr (Or.inl c40)), if_pos rfl]; exact core 3
  rw [if_neg c40]
  by_cases c41 : x = 41
  · rw [if_pos c41, show isSg x = true from decide_eq_true (Or.inr (Or.inr (Or.inl c41))), if_pos rfl]; exact core 3
  rw [if_neg c41]
  by_cases c43 : x = 43
  · rw [if_pos c43, show isSg x = true from decide_eq_true (Or.inr (Or.inr (Or.inr (Or.inl c43)))), if_pos rfl]; exact core 3
  rw [if_neg c43]
  by_cases c45 : x = 45
  · rw [if_pos c45, show isSg x = true from decide_eq_true (Or.inr (Or.inr (Or.inr (Or.inr (Or.inl c45))))), if_pos rfl]; exact core 3
  rw [if_neg c45]
  by_cases c42 : x = 42
  · rw [if_pos c42, show isSg x = true from decide_eq_true (Or.inr (Or.inr (Or.inr (Or.inr (Or.inr (Or.inl c42)))))), if_pos rfl]; exact core 3
  rw [if_neg c42]
  by_cases c47 : x = 47
  · rw [if_pos c47, show isSg x = true from decide_eq_true (Or.inr (Or.inr (Or.inr (Or.inr (Or.inr (Or.inr (Or.inl c47))))))), if_pos rfl]; exact core 3
  rw [if_neg c47]
  by_cases c60 : x = 60
  · rw [if_pos c60, show isSg x = true from decide_eq_true (Or.inr (Or.inr (Or.inr (Or.inr (Or.inr (Or.inr (Or.inr (Or.inl c60)))))))), if_pos rfl]; exact core 3
  rw [if_neg c60]
  by_cases c61 : x = 61
  · rw [if_pos c61, show isSg x = true from decide_eq_true (Or.inr (Or.inr (Or.inr (Or.inr (Or.inr (Or.inr (Or.inr (Or.inr (Or.inl c61))))))))), if_pos rfl]; exact core 3
  rw [if_neg c61]
  by_cases c62 : x = 62
  · rw [if_pos c62, show isSg x = true from decide_eq_true (Or.inr (Or.inr (Or.inr (Or.inr (Or.inr (Or.inr (Or.inr (Or.inr (Or.inr (c62)))))))))), if_pos rfl]; exact core 3
  rw [if_neg c62]
  rw [show isSg x = false from decide_eq_false (by rintro (e | e | e | e | e | e | e | e | e | e) <;> contradiction), if_neg (show ¬ false = true by decide)]
  exact core 5
/-- kind and value in the class, sort and value in the reference -/
def sgT (k va : Int32) : Bool := decide ((k = 4 ∧ va = 59) ∨ (k = 5 ∧ va = 40) ∨ (k = 6 ∧ va = 41) ∨ (k = 7 ∧ va = 43) ∨ (k = 8 ∧ va = 45) ∨ (k = 9 ∧ va = 42) ∨ (k = 10 ∧ va = 47) ∨ (k = 11 ∧ va = 60) ∨ (k = 12 ∧ va = 256) ∨ (k = 13 ∧ va = 61) ∨ (k = 14 ∧ va = 257) ∨ (k = 15 ∧ va = 258) ∨ (k = 16 ∧ va = 62))
def TK (k v so va : Int32) : Prop := (k = 0 ∧ so = 4) ∨ (k = 1 ∧ so = 5) ∨ (k = 2 ∧ so = 1 ∧ ∃ x, v = nI x ∧ va = nI x ∧ 0 < x ∧ x < 1073741824) ∨ (k = 3 ∧ so = 2 ∧ ∃ x y, v = nI x ∧ va = nI y ∧ nrR x y) ∨ (so = 3 ∧ sgT k va = true) ∨ (so = 0 ∧ ∃ i, i < 24 ∧ k = nI (20 + i) ∧ va = nI i)
def yc (c : Nat) : Int32 := if c = 0 then 61 else if c = 1 then 62 else 0
def hc (c : Nat) : Int32 := if c = 0 then 61 else if c = 1 then 62 else -1
def sgB (b c : Nat) : Bool := ltB b || dgB b || ((lg2 (kf (sb b) (yc c)) == !(decide (mva (nI b) (hc c) < 256))) && ((!(isSg (nI b)) && decide (kf (sb b) (yc c) = 1)) || (isSg (nI b) && sgT (kf (sb b) (yc c)) (mva (nI b) (hc c)))))
set_option maxRecDepth 100000 in
theorem sg_all : ∀ b, b < 256 → ∀ c, c < 3 → sgB b c = true := by decide +kernel
theorem sg_dec {b c : Nat} (hb : b < 256) (hc' : c < 3) (h1 : ltB b = false) (h2 : dgB b = false) : (lg2 (kf (sb b) (yc c)) = true ↔ ¬ mva (nI b) (hc c) < 256) ∧ ((isSg (nI b) = false ∧ kf (sb b) (yc c) = 1) ∨ (isSg (nI b) = true ∧ sgT (kf (sb b) (yc c)) (mva (nI b) (hc c)) = true)) := by
  have h := sg_all b hb c hc'
  unfold sgB at h
  rw [h1, h2] at h
  rw [Bool.false_or, Bool.false_or] at h
  generalize lg2 (kf (sb b) (yc c)) = L at h ⊢
  generalize isSg (nI b) = I at h ⊢
  generalize sgT (kf (sb b) (yc c)) (mva (nI b) (hc c)) = T at h ⊢
  by_cases c1 : mva (nI b) (hc c) < 256
  · rw [decide_eq_true c1] at h
    by_cases c2 : kf (sb b) (yc c) = 1
    · rw [decide_eq_true c2] at h
      cases L <;> cases I <;> cases T <;> first | (exact absurd h (by decide)) | exact ⟨⟨fun e => absurd e (by decide), fun e => absurd c1 e⟩, Or.inl ⟨rfl, c2⟩⟩ | exact ⟨⟨fun e => absurd e (by decide), fun e => absurd c1 e⟩, Or.inr ⟨rfl, rfl⟩⟩
    · rw [decide_eq_false c2] at h
      cases L <;> cases I <;> cases T <;> first | (exact absurd h (by decide)) | exact ⟨⟨fun e => absurd e (by decide), fun e => absurd c1 e⟩, Or.inr ⟨rfl, rfl⟩⟩
  · rw [decide_eq_false c1] at h
    by_cases c2 : kf (sb b) (yc c) = 1
    · rw [decide_eq_true c2] at h
      cases L <;> cases I <;> cases T <;> first | (exact absurd h (by decide)) | exact ⟨⟨fun _ => c1, fun _ => rfl⟩, Or.inl ⟨rfl, c2⟩⟩ | exact ⟨⟨fun _ => c1, fun _ => rfl⟩, Or.inr ⟨rfl, rfl⟩⟩
    · rw [decide_eq_false c2] at h
      cases L <;> cases I <;> cases T <;> first | (exact absurd h (by decide)) | exact ⟨⟨fun _ => c1, fun _ => rfl⟩, Or.inr ⟨rfl, rfl⟩⟩
theorem mva_congr {x y z : Int32} (h1 : y = 61 ↔ z = 61) (h2 : y = 62 ↔ z = 62) : mva x y = mva x z := by
  unfold mva; simp only [h1, h2]
set_option maxRecDepth 100000 in
theorem bh_dec : ∀ b, b < 256 → ∃ c, c < 3 ∧ (sb b = 61 ↔ yc c = 61) ∧ (sb b = 62 ↔ yc c = 62) ∧ (nI b = 61 ↔ hc c = 61) ∧ (nI b = 62 ↔ hc c = 62) := by
  intro b hb
  by_cases c1 : b = 61
  · subst c1; exact ⟨0, by decide, by decide, by decide, by decide, by decide⟩
  · by_cases c2 : b = 62
    · subst c2; exact ⟨1, by decide, by decide, by decide, by decide, by decide⟩
    · have e1 : (nI b = 61) ↔ b = 61 := by rw [show (61 : Int32) = nI 61 from rfl, nI_eq (by omega) (by decide)]
      have e2 : (nI b = 62) ↔ b = 62 := by rw [show (62 : Int32) = nI 62 from rfl, nI_eq (by omega) (by decide)]
      have s1 : (sb b = 61) ↔ b = 61 := by
        unfold sb
        split
        · exact e1
        · constructor
          · intro e
            have := congrArg Int32.toInt e
            rw [i_sub (by rw [nI_toInt (by omega)]; show _ ≤ _ - (256 : Int); omega) (by rw [nI_toInt (by omega)]; show _ - (256 : Int) < _; omega), nI_toInt (by omega)] at this
            have : (b : Int) - 256 = 61 := this
            omega
          · intro e; omega
      have s2 : (sb b = 62) ↔ b = 62 := by
        unfold sb
        split
        · exact e2
        · constructor
          · intro e
            have := congrArg Int32.toInt e
            rw [i_sub (by rw [nI_toInt (by omega)]; show _ ≤ _ - (256 : Int); omega) (by rw [nI_toInt (by omega)]; show _ - (256 : Int) < _; omega), nI_toInt (by omega)] at this
            have : (b : Int) - 256 = 62 := this
            omega
          · intro e; omega
      refine ⟨2, by decide, ?_, ?_, ?_, ?_⟩
      · rw [s1]; exact ⟨fun e => absurd e c1, fun e => absurd e (by decide)⟩
      · rw [s2]; exact ⟨fun e => absurd e c2, fun e => absurd e (by decide)⟩
      · rw [e1]; exact ⟨fun e => absurd e c1, fun e => absurd e (by decide)⟩
      · rw [e2]; exact ⟨fun e => absurd e c2, fun e => absurd e (by decide)⟩
