/-! ===== from where it falls on a cell; the fewest lamps ===== -/
theorem lampGo_congr {T : TT} {w v : Nat → Int32} (h4 : w 4 = v 4) (h5 : w 5 = v 5) (h7 : w 7 = v 7) : ∀ (d i : Nat) (b l : Int32), lampGo T w d i b l = lampGo T v d i b l := by
  have hd : ∀ x, lampD T w x = lampD T v x := fun x => by unfold lampD; rw [h4, h5]
  intro d
  induction d with
  | zero => intro i b l; rfl
  | succ d ih => intro i b l; rw [lampGo_s, lampGo_s, hd, h7, ih, ih]
theorem fall_congr {T : TT} {w v : Nat → Int32} {s a : Int32} (h4 : w 4 = v 4) (h5 : w 5 = v 5) (h6 : w 6 = v 6) (h7 : w 7 = v 7) (h8 : w 8 = v 8) : fallS T w s a = fallS T v s a ∧ oneS T w s a = oneS T v s a := by
  have hl : lampS T w = lampS T v := lampGo_congr h4 h5 h7 _ _ _ _
  have hd : ∀ x, lampD T w x = lampD T v x := fun x => by unfold lampD; rw [h4, h5]
  have hg : lightS T w s = lightS T v s := by unfold lightS; rw [hl, hd, h4, h5]
  have hn : ∀ a b c d, nmW w a b c d = nmW v a b c d := fun a b c d => by unfold nmW; rw [h6, h7, h8]
  have hf : fallS T w s a = fallS T v s a := by unfold fallS; rw [hg, hn, h4, h5]
  exact ⟨hf, by unfold oneS; rw [hf, h4, h5]⟩
/-- it falls on a cell -/
def onB (T : TT) (w : Nat → Int32) (s a r c : Int32) : Bool := decide (oneS T w s a = false ∧ (fallS T w s a).1 = r ∧ (fallS T w s a).2 = c)
theorem X_on {t : Nat} {S : MS} {T : TT} {how tw r c : Int32} (h : XO t S) (et : tX S t = T) (hW : WT T) (hk : WOK T (wX S 95)) (hh : HW how tw false) :
    ∃ S1, fX10_fallsOn 0 r c how S = some (b2i (onB T (wX S 95) (sunS T false tw (hr24 (wX S 95 3))) (hr24 (wX S 95 3)) r c), S1) ∧ wX S1 95 = wX S 95 ∧ Fr (PX 95) S S1 := by
  obtain ⟨S1, q1, q2, q3, q4, q5, q6, q7⟩ := X_fall (dark := false) h W95 (by rw [et]; exact hW.1) (by rw [et]; exact hW.2.1) (by rw [et]; exact hW.2.2.2.1) hk.2.1 (by rw [et]; exact hk.1) hk.2.2.1 hh
  rw [et] at q5 q6 q7
  refine ⟨S1, ?_, q2, q3⟩
  have q1' : fX0_fall 52 95 (0 : Int32) how S = some S1 := q1
  unfold fX10_fallsOn onB
  rw [rx_0_4 h.1, rx_0_11 h.1, q1', Option.bind_some, rx_0_11 (h.1.of q3.1), q5, q6, q7]
  generalize oneS T (wX S 95) (sunS T false tw (hr24 (wX S 95 3))) (hr24 (wX S 95 3)) = one
  generalize (fallS T (wX S 95) (sunS T false tw (hr24 (wX S 95 3))) (hr24 (wX S 95 3))).1 = fr
  generalize (fallS T (wX S 95) (sunS T false tw (hr24 (wX S 95 3))) (hr24 (wX S 95 3))).2 = fc
  cases one <;> by_cases c1 : fr = r <;> by_cases c2 : fc = c <;> simp [c1, c2, b2i]
theorem M_on1 {S : MS} {T : TT} {at_ r c : Int32} {dark : Bool} (h : MO S) (et : tM S = T) (hW : WT T) (hp : WP T (wM S 1)) (h57 : gI S 0 57 = 0) (h0 : 0 ≤ at_) (h24 : at_ < 24) :
    ∃ S1, fX11_falls 0 (1 : Int32) at_ (b2i dark) S = some S1 ∧ fX11_isItAt 0 r c S1 = some (b2i (onB T (wM S 1) (sunS T dark 0 at_) at_ r c)) ∧ Fr PFM S S1 := by
  obtain ⟨S1, q1, q2, q3, q4, q5⟩ := M_falls (r := 1) (dark := dark) h (by rw [et]; exact hW.1) (by rw [et]; exact hW.2.2.2.1) (by rw [et]; exact hW.2.2.2.2) (by rw [et]; exact hW.2.2.1) (by decide) (by rw [et]; exact hp) h57 h0 h24
  rw [et] at q3 q4 q5
  exact ⟨S1, q1, M_it ⟨q3, q4, q5⟩, q2⟩
/-- how many are so -/
def cnt (f : Nat → Bool) : Nat → Nat → Int32 → Int32
  | 0, _, a => a
  | d + 1, i, a => cnt f d (i + 1) (if f i = true then a + 1 else a)
theorem cnt_add {f : Nat → Bool} : ∀ (m n i : Nat) (a : Int32), cnt f (m + n) i a = cnt f n (i + m) (cnt f m i a)
  | 0, n, i, a => by rw [Nat.zero_add, Nat.add_zero]; rfl
  | m + 1, n, i, a => by
    rw [show m + 1 + n = (m + n) + 1 from by omega]
    show cnt f (m + n) (i + 1) _ = cnt f n (i + (m + 1)) (cnt f m (i + 1) _)
    rw [cnt_add m n (i + 1), show i + (m + 1) = i + 1 + m from by omega]
theorem cnt_no {f : Nat → Bool} : ∀ (d i : Nat) (a : Int32), (∀ k, i ≤ k → k < i + d → f k = false) → cnt f d i a = a
  | 0, _, _, _ => rfl
  | d + 1, i, a, h => by
    show cnt f d (i + 1) _ = a
    rw [h i (Nat.le_refl _) (by omega), cnt_no d (i + 1) _ (fun k h1 h2 => h k (by omega) (by omega))]; rfl
theorem div8 {r c : Nat} (hc : c < 8) : (8 * r + c) / 8 = r ∧ (8 * r + c) % 8 = c := by omega
def hitB (T : TT) (W : Nat → Int32) (s a row col : Int32) (k : Nat) : Bool := cellB T (nI (k / 8)) (nI (k % 8)) && !wallB T (nI (k / 8)) (nI (k % 8)) && onB T (up (up W 4 (nI (k / 8))) 5 (nI (k % 8))) s a row col
theorem cell_no {T : TT} {r c C R : Nat} (e8 : sc T 8 = nI R) (e9 : sc T 9 = nI C) (hR : R ≤ 8) (hC : C ≤ 8) (hr : r < 8) (hc : c < 8) (h : R ≤ r ∨ C ≤ c) : cellB T (nI r) (nI c) = false := by
  unfold cellB
  rw [e8, e9]
  refine decide_eq_false (fun hh => ?_)
  rcases h with h | h
  · exact hh.2.1 ((nI_leI (by omega) (by omega)).mpr h)
  · exact hh.2.2.2 ((nI_leI (by omega) (by omega)).mpr h)
theorem cell_yes {T : TT} {r c C R : Nat} (e8 : sc T 8 = nI R) (e9 : sc T 9 = nI C) (hR : R ≤ 8) (hC : C ≤ 8) (hr : r < R) (hc : c < C) : cellB T (nI r) (nI c) = true := by
  unfold cellB
  rw [e8, e9]
  exact decide_eq_true ⟨nI_pos (by omega), nle (by omega) hr, nI_pos (by omega), nle (by omega) hc⟩
theorem WOK_45 {T : TT} {w v : Nat → Int32} {r c : Int32} (h : WOK T w) (hc : cellB T r c = true) (e4 : v 4 = r) (e5 : v 5 = c) (e3 : 0 ≤ v 3 ∧ v 3 ≤ 20000) (e7 : v 7 = w 7) (e8 : v 8 = w 8) : WOK T v := by
  have hh := of_decide_eq_true hc
  refine ⟨?_, ?_, e3.1, e3.2⟩
  · unfold WP; rw [e4, e5]; exact ⟨Int32.not_lt.mp hh.1, Int32.not_le.mp hh.2.1, Int32.not_lt.mp hh.2.2.1, Int32.not_le.mp hh.2.2.2⟩
  · unfold WB; rw [e7, e8]; exact h.2.1
/-- the side of the room as numbers -/
theorem sides {T : TT} (hD : WD T) : ∃ R C : Nat, 0 < R ∧ R ≤ 8 ∧ 0 < C ∧ C ≤ 8 ∧ sc T 8 = nI R ∧ sc T 9 = nI C := by
  obtain ⟨h1, h2, h3, h4⟩ := hD
  obtain ⟨R, hR, e8⟩ := nI_of (x := sc T 8) (fun hh => absurd (Int32.lt_trans h1 hh) (by decide))
  obtain ⟨C, hC, e9⟩ := nI_of (x := sc T 9) (fun hh => absurd (Int32.lt_trans h3 hh) (by decide))
  rw [e8, show (0 : Int32) = nI 0 from rfl, nI_ltI (by decide) hR] at h1
  rw [e9, show (0 : Int32) = nI 0 from rfl, nI_ltI (by decide) hC] at h3
  rw [e8, show (8 : Int32) = nI 8 from rfl, nI_leI hR (by decide)] at h2
  rw [e9, show (8 : Int32) = nI 8 from rfl, nI_leI hC (by decide)] at h4
  exact ⟨R, C, h1, h2, h3, h4, e8, e9⟩
/-- the trial world but for where she is -/
def like (W : Nat → Int32) (hr : Int32) (w : Nat → Int32) : Prop := w 3 = hr ∧ w 6 = W 6 ∧ w 7 = W 7 ∧ w 8 = W 8
theorem X_cast_in {t R C r : Nat} {T : TT} {W : Nat → Int32} {row col hr : Int32} {K : Nat → Int32 → Int32 → Int32 → Int32 → MS → Option (Int32 × MS)} {S0 : MS} (hW : WT T) (hWk : WOK T W) (e8 : sc T 8 = nI R) (e9 : sc T 9 = nI C) (hR : R ≤ 8) (hC : C ≤ 8) (hr8 : r < R) (h0 : 0 ≤ hr) (h24 : hr < 24) : ∀ (d c fuel : Nat) (a : Int32) (S : MS), C = c + d → d < fuel → XO t S → tX S t = T → like W hr (wX S 95) → Fr (PX 95) S0 S →
    ∃ S1, fX10_cast_64 K fuel 0 row col a (nI r) (nI c) S = K 0 row col (cnt (hitB T W (sunS T false 0 hr) hr row col) d (8 * r + c) a) (nI (r + 1)) S1 ∧ XO t S1 ∧ tX S1 t = T ∧ like W hr (wX S1 95) ∧ Fr (PX 95) S0 S1 := by
  intro d
  induction d with
  | zero =>
    intro c fuel a S e1 e2 hX et hl hf
    obtain ⟨f, rfl⟩ : ∃ f, fuel = f + 1 := ⟨fuel - 1, by omega⟩
    refine ⟨S, ?_, hX, et, hl, hf⟩
    have s9 : gI S t 9 = nI C := by rw [← e9, ← et]; rfl
    unfold fX10_cast_64
    rw [rx_told hX.1, s9, e1, Nat.add_zero, if_pos (Int32.le_refl _), nI_1]
    rfl
  | succ d ih =>
    intro c fuel a S e1 e2 hX et hl hf
    obtain ⟨f, rfl⟩ : ∃ f, fuel = f + 1 := ⟨fuel - 1, by omega⟩
    have s9 : gI S t 9 = nI C := by rw [← e9, ← et]; rfl
    have f1 : Fr (PX 95) S (pI (pI S 95 4 (nI r)) 95 5 (nI c)) := (Fr.rf.pI (Or.inr ⟨by decide, by decide⟩)).pI (Or.inr ⟨by decide, by decide⟩)
    have ew : wX (pI (pI S 95 4 (nI r)) 95 5 (nI c)) 95 = up (up (wX S 95) 4 (nI r)) 5 (nI c) := by rw [wX_own (by decide) (by decide), wX_own (by decide) (by decide)]
    have hX1 := hX.fr W95 f1
    have et1 : tX (pI (pI S 95 4 (nI r)) 95 5 (nI c)) t = T := (hX.told W95 f1).trans et
    have hcell : cellB T (nI r) (nI c) = true := cell_yes e8 e9 hR hC hr8 (by omega)
    have hdm := div8 (r := r) (c := c) (by omega)
    have hl1 : like W hr (wX (pI (pI S 95 4 (nI r)) 95 5 (nI c)) 95) := by
      rw [ew]; unfold like; rw [up_ne (by decide), up_ne (by decide), up_ne (by decide), up_ne (by decide), up_ne (by decide), up_ne (by decide), up_ne (by decide), up_ne (by decide)]; exact hl
    have wall := X_isWall (r := nI r) (c := nI c) hX1.1 hX1.1.1 (by rw [et1]; exact hW.2.2.2.1)
    rw [et1, hcell, Bool.true_and] at wall
    have hhit : hitB T W (sunS T false 0 hr) hr row col (8 * r + c) = (!wallB T (nI r) (nI c) && onB T (up (up W 4 (nI r)) 5 (nI c)) (sunS T false 0 hr) hr row col) := by
      unfold hitB; rw [hdm.1, hdm.2, hcell, Bool.true_and]
    unfold fX10_cast_64 fX10_cast_121
    simp only [rx_told hX.1, s9, nle (show C < 2 ^ 31 by omega) (show c < C by omega), if_false, rx_0_11 hX.1, gR_pI, wall, Option.bind_some]
    show ∃ S1, _ = K 0 row col (cnt _ d (8 * r + (c + 1)) (if hitB T W (sunS T false 0 hr) hr row col (8 * r + c) = true then a + 1 else a)) (nI (r + 1)) S1 ∧ _
    rw [hhit]
    cases hwb : wallB T (nI r) (nI c) with
    | true =>
      rw [if_neg b2i_t, nI_1]
      exact ih (c + 1) f a _ (by omega) (by omega) hX1 et1 hl1 (hf.tr f1)
    | false =>
      rw [if_pos b2i_f]
      have hk1 : WOK T (wX (pI (pI S 95 4 (nI r)) 95 5 (nI c)) 95) := by
        refine WOK_45 hWk hcell ?_ ?_ ?_ hl1.2.2.1 hl1.2.2.2
        · rw [ew, up_ne (by decide), up_same]
        · rw [ew, up_same]
        · rw [hl1.1]; exact ⟨h0, by grind⟩
      obtain ⟨S2, a1, a2, a3⟩ := X_on (r := row) (c := col) hX1 et1 hW hk1 HW00
      have e3 : hr24 hr = hr := by
        obtain ⟨k, hk, rfl⟩ := nI_of (Int32.not_lt.mpr h0)
        have : k < 24 := by rw [show (24 : Int32) = nI 24 from rfl, nI_ltI hk (by decide)] at h24; exact h24
        rw [hr24_nI hk, Nat.mod_eq_of_lt this]
      rw [hl1.1, e3] at a1
      have eon : onB T (wX (pI (pI S 95 4 (nI r)) 95 5 (nI c)) 95) (sunS T false 0 hr) hr row col = onB T (up (up W 4 (nI r)) 5 (nI c)) (sunS T false 0 hr) hr row col := by
        have q := fall_congr (T := T) (w := wX (pI (pI S 95 4 (nI r)) 95 5 (nI c)) 95) (v := up (up W 4 (nI r)) 5 (nI c)) (s := sunS T false 0 hr) (a := hr) (by rw [ew, up_ne (by decide), up_same, up_ne (by decide), up_same]) (by rw [ew, up_same, up_same]) (by rw [hl1.2.1, up_ne (by decide), up_ne (by decide)]) (by rw [hl1.2.2.1, up_ne (by decide), up_ne (by decide)]) (by rw [hl1.2.2.2, up_ne (by decide), up_ne (by decide)])
        unfold onB; rw [q.1, q.2]
      rw [eon] at a1
      rw [a1, Option.bind_some, nI_1]
      have hX2 := hX1.fr W95 a3
      have et2 : tX S2 t = T := (hX1.told W95 a3).trans et1
      cases onB T (up (up W 4 (nI r)) 5 (nI c)) (sunS T false 0 hr) hr row col with
      | false =>
        exact ih (c + 1) f a S2 (by omega) (by omega) hX2 et2 (by rw [a2]; exact hl1) ((hf.tr f1).tr a3)
      | true =>
        exact ih (c + 1) f (a + 1) S2 (by omega) (by omega) hX2 et2 (by rw [a2]; exact hl1) ((hf.tr f1).tr a3)
theorem hit_no {T : TT} {W : Nat → Int32} {s a row col : Int32} {k : Nat} (h : cellB T (nI (k / 8)) (nI (k % 8)) = false) : hitB T W s a row col k = false := by unfold hitB; rw [h]; rfl
theorem X_cast_out {t R C : Nat} {T : TT} {W : Nat → Int32} {row col hr : Int32} {S0 : MS} (hW : WT T) (hWk : WOK T W) (e8 : sc T 8 = nI R) (e9 : sc T 9 = nI C) (hR : R ≤ 8) (hC : C ≤ 8) (h0 : 0 ≤ hr) (h24 : hr < 24) : ∀ (d r fuel : Nat) (a : Int32) (S : MS), R = r + d → d < fuel → XO t S → tX S t = T → like W hr (wX S 95) → Fr (PX 95) S0 S →
    ∃ S1, fX10_cast_49 fuel 0 row col a (nI r) S = some (cnt (hitB T W (sunS T false 0 hr) hr row col) (64 - 8 * r) (8 * r) a, S1) ∧ Fr (PX 95) S0 S1 := by
  intro d
  induction d with
  | zero =>
    intro r fuel a S e1 e2 hX et hl hf
    obtain ⟨f, rfl⟩ : ∃ f, fuel = f + 1 := ⟨fuel - 1, by omega⟩
    refine ⟨S, ?_, hf⟩
    have s8 : gI S t 8 = nI R := by rw [← e8, ← et]; rfl
    unfold fX10_cast_49
    rw [rx_told hX.1, s8, e1, Nat.add_zero, if_pos (Int32.le_refl _), cnt_no _ _ _ (fun k h1 h2 => hit_no (cell_no e8 e9 hR hC (by omega) (by omega) (Or.inl (by omega))))]
  | succ d ih =>
    intro r fuel a S e1 e2 hX et hl hf
    obtain ⟨f, rfl⟩ : ∃ f, fuel = f + 1 := ⟨fuel - 1, by omega⟩
    have s8 : gI S t 8 = nI R := by rw [← e8, ← et]; rfl
    unfold fX10_cast_49
    obtain ⟨S1, q1, q2, q3, q4, q5⟩ := X_cast_in (K := fX10_cast_49 f) (S0 := S0) (row := row) (col := col) hW hWk e8 e9 hR hC (show r < R by omega) h0 h24 C 0 1000 a S (Nat.zero_add _).symm (by omega) hX et hl hf
    have q1' : fX10_cast_64 (fX10_cast_49 f) 1000 0 row col a (nI r) (0 : Int32) S = _ := q1
    rw [rx_told hX.1, s8, if_neg (nle (by omega) (by omega)), q1']
    obtain ⟨S2, r1, r2⟩ := ih (r + 1) f (cnt (hitB T W (sunS T false 0 hr) hr row col) C (8 * r + 0) a) S1 (by omega) (by omega) q2 q3 q4 q5
    refine ⟨S2, ?_, r2⟩
    rw [r1]
    have e : 64 - 8 * r = C + ((8 - C) + (64 - 8 * (r + 1))) := by omega
    rw [e, cnt_add, cnt_add, cnt_no (8 - C) _ _ (fun k h1 h2 => hit_no (cell_no e8 e9 hR hC (by omega) (by omega) (Or.inr (by omega)))), show 8 * r + C + (8 - C) = 8 * (r + 1) from by omega]
    rfl
theorem nI_mod8 {k : Nat} (hk : k < 2 ^ 31) : nI k / 8 = nI (k / 8) ∧ nI k - nI k / 8 * 8 = nI (k % 8) := by
  have e : nI k / 8 = nI (k / 8) := nI_div hk (by decide)
  refine ⟨e, ?_⟩
  rw [e, show (8 : Int32) = nI 8 from rfl, nI_mul, nI_subN (Nat.div_mul_le_self k 8)]
  congr 1; omega
theorem M_cast_go {T : TT} {W : Nat → Int32} {row col hr : Int32} {S0 : MS} (hW : WT T) (hWk : WOK T W) (h0 : 0 ≤ hr) (h24 : hr < 24) : ∀ (d k fuel : Nat) (a : Int32) (S : MS), 64 = k + d → d < fuel → MO S → tM S = T → gI S 0 57 = 0 → (wM S 1 6 = W 6 ∧ wM S 1 7 = W 7 ∧ wM S 1 8 = W 8) → Fr (PM 1) S0 S →
    ∃ S1, fX11_cast_38 fuel 0 row col hr a (nI k) S = some (cnt (hitB T W (sunS T false 0 hr) hr row col) d k a, S1) ∧ Fr (PM 1) S0 S1 := by
  intro d
  induction d with
  | zero =>
    intro k fuel a S e1 e2 hX et ht hl hf
    obtain ⟨f, rfl⟩ : ∃ f, fuel = f + 1 := ⟨fuel - 1, by omega⟩
    refine ⟨S, ?_, hf⟩
    unfold fX11_cast_38
    rw [show k = 64 from by omega, if_pos (by decide)]; rfl
  | succ d ih =>
    intro k fuel a S e1 e2 hX et ht hl hf
    obtain ⟨f, rfl⟩ : ∃ f, fuel = f + 1 := ⟨fuel - 1, by omega⟩
    have hi : ¬ (64 : Int32) ≤ nI k := nle (n := 64) (by decide) (by omega)
    obtain ⟨m1, m2⟩ := nI_mod8 (k := k) (by omega)
    show ∃ S1, _ = some (cnt _ d (k + 1) (if hitB T W (sunS T false 0 hr) hr row col k = true then a + 1 else a), S1) ∧ _
    unfold fX11_cast_38 fX11_cast_130 fX11_cast_104 fX11_cast_127 fX11_cast_130
    rw [if_neg hi, m2, m1, M_isCell hX.1, et, Option.bind_some, nI_1]
    cases hc : cellB T (nI (k / 8)) (nI (k % 8)) with
    | false =>
      rw [if_pos b2i_f, hit_no hc]
      exact ih (k + 1) f a S (by omega) (by omega) hX et ht hl hf
    | true =>
      have wall := M_isWall (r := nI (k / 8)) (c := nI (k % 8)) hX.1 (by rw [et]; exact hW.2.2.2.1) hX.2.2 (by rw [et]; exact hc)
      rw [et] at wall
      rw [if_neg b2i_t, wall, Option.bind_some]
      have hhit : hitB T W (sunS T false 0 hr) hr row col k = (!wallB T (nI (k / 8)) (nI (k % 8)) && onB T (up (up W 4 (nI (k / 8))) 5 (nI (k % 8))) (sunS T false 0 hr) hr row col) := by
        unfold hitB; rw [hc, Bool.true_and]
      rw [hhit]
      cases hwb : wallB T (nI (k / 8)) (nI (k % 8)) with
      | true =>
        rw [if_neg b2i_t]
        exact ih (k + 1) f a S (by omega) (by omega) hX et ht hl hf
      | false =>
        rw [if_pos b2i_f, gR_pI, mr_46 hX.1, mr_47 hX.1, lm_30, lm_31, show bnd (1 : Int32) 23 = true from rfl, if_pos rfl, if_pos rfl, show (1 : Int32).toNatClampNeg = 1 from rfl]
        have f1 : Fr (PM 1) S (pI (pI S 30 1 (nI (k / 8))) 31 1 (nI (k % 8))) := (Fr.rf.pI (PM_w (by decide) (by decide))).pI (PM_w (by decide) (by decide))
        have ew : wM (pI (pI S 30 1 (nI (k / 8))) 31 1 (nI (k % 8))) 1 = up (up (wM S 1) 4 (nI (k / 8))) 5 (nI (k % 8)) := by
          rw [show (31 : Nat) = mWc 5 from rfl, wM_own (by decide) (by decide), show (30 : Nat) = mWc 4 from rfl, wM_own (by decide) (by decide)]
        have hX1 := hX.fr f1
        have et1 : tM (pI (pI S 30 1 (nI (k / 8))) 31 1 (nI (k % 8))) = T := (MO.told f1).trans et
        have ht1 : gI (pI (pI S 30 1 (nI (k / 8))) 31 1 (nI (k % 8))) 0 57 = 0 := by rw [gI_neo (by decide), gI_neo (by decide)]; exact ht
        have hh := of_decide_eq_true hc
        have hp : WP T (wM (pI (pI S 30 1 (nI (k / 8))) 31 1 (nI (k % 8))) 1) := by
          rw [ew]; unfold WP; rw [up_ne (by decide), up_same, up_same]
          exact ⟨Int32.not_lt.mp hh.1, Int32.not_le.mp hh.2.1, Int32.not_lt.mp hh.2.2.1, Int32.not_le.mp hh.2.2.2⟩
        obtain ⟨S2, a1, a2, a3⟩ := M_on1 (dark := false) (r := row) (c := col) hX1 et1 hW hp ht1 h0 h24
        have a1' : fX11_falls 0 (1 : Int32) hr (0 : Int32) (pI (pI S 30 1 (nI (k / 8))) 31 1 (nI (k % 8))) = some S2 := a1
        have eon : onB T (wM (pI (pI S 30 1 (nI (k / 8))) 31 1 (nI (k % 8))) 1) (sunS T false 0 hr) hr row col = onB T (up (up W 4 (nI (k / 8))) 5 (nI (k % 8))) (sunS T false 0 hr) hr row col := by
          have q := fall_congr (T := T) (w := wM (pI (pI S 30 1 (nI (k / 8))) 31 1 (nI (k % 8))) 1) (v := up (up W 4 (nI (k / 8))) 5 (nI (k % 8))) (s := sunS T false 0 hr) (a := hr) (by rw [ew, up_ne (by decide), up_same, up_ne (by decide), up_same]) (by rw [ew, up_same, up_same]) (by rw [ew, up_ne (by decide), up_ne (by decide), hl.1, up_ne (by decide), up_ne (by decide)]) (by rw [ew, up_ne (by decide), up_ne (by decide), hl.2.1, up_ne (by decide), up_ne (by decide)]) (by rw [ew, up_ne (by decide), up_ne (by decide), hl.2.2, up_ne (by decide), up_ne (by decide)])
          unfold onB; rw [q.1, q.2]
        rw [eon] at a2
        rw [a1', Option.bind_some, a2, Option.bind_some, add0]
        have f2 : Fr (PM 1) S S2 := f1.tr (a3.mo PFM_M)
        have ew2 : wM S2 1 = up (up (wM S 1) 4 (nI (k / 8))) 5 (nI (k % 8)) := (wM_fr a3 PFM_w).trans ew
        have hl2 : wM S2 1 6 = W 6 ∧ wM S2 1 7 = W 7 ∧ wM S2 1 8 = W 8 := by
          rw [ew2, up_ne (by decide), up_ne (by decide), up_ne (by decide), up_ne (by decide), up_ne (by decide), up_ne (by decide)]; exact hl
        have ht2 : gI S2 0 57 = 0 := by rw [a3.2 _ _ (fun hp => by unfold PFM at hp; omega)]; exact ht1
        cases onB T (up (up W 4 (nI (k / 8))) 5 (nI (k % 8))) (sunS T false 0 hr) hr row col with
        | false => exact ih (k + 1) f a S2 (by omega) (by omega) (hX.fr f2) ((MO.told f2).trans et) ht2 hl2 (hf.tr f2)
        | true => exact ih (k + 1) f (a + 1) S2 (by omega) (by omega) (hX.fr f2) ((MO.told f2).trans et) ht2 hl2 (hf.tr f2)
theorem sim_17 : Sim_17 Inv := by
  intro SX SM z0 z1 z2 ⟨t, T, h⟩
  have hv := h.th
  have hiv : Inv SX (th0 SM) := ⟨t, T, hv⟩
  obtain ⟨hX, hM, ex, em, hW, h57, hE⟩ := hv.1
  have hk := hv.2.1.2.1
  unfold fX10_cast fX11_cast
  rw [rx_told hX.1, X_isCell, M_isCell hM.1, ex, em]
  cases hc : cellB T z0 z1 with
  | false => exact ⟨_, _, rfl, rfl, rfl, hiv⟩
  | true =>
    rw [Option.bind_some, if_neg b2i_t, Option.bind_some, if_neg b2i_t]
    by_cases c1 : z2 < 0
    · rw [if_pos c1, if_pos c1]; exact ⟨_, _, rfl, rfl, rfl, hiv⟩
    rw [if_neg c1, if_neg c1]
    by_cases c2 : z2 < 24
    · rw [if_pos c2, if_pos c2]
      obtain ⟨S1, M1, q1, r1, hv1, w1, w2, w3, w4, -, -⟩ := run_start hv
      obtain ⟨hX1, hM1, ex1, em1, -, h571, -⟩ := hv1.1
      obtain ⟨R, C, -, hR, -, hC, e8, e9⟩ := sides hW.2.2.2.1
      have h0 := Int32.not_lt.mp c1
      have f1 : Fr (PX 95) S1 (pI S1 95 3 z2) := Fr.rf.pI (Or.inr ⟨by decide, by decide⟩)
      have ew : wX (pI S1 95 3 z2) 95 = up (wM (th0 SM) 0) 3 z2 := by rw [wX_own (by decide) (by decide), w1]
      obtain ⟨S2, a1, a2⟩ := X_cast_out (W := wM (th0 SM) 0) (row := z0) (col := z1) (S0 := S1) hW hk e8 e9 hR hC h0 c2 R 0 1000 0 (pI S1 95 3 z2) (Nat.zero_add _).symm (by omega) (hX1.fr W95 f1) ((hX1.told W95 f1).trans ex1) (by rw [ew]; exact ⟨rfl, rfl, rfl, rfl⟩) f1
      obtain ⟨M2, b1, b2⟩ := M_cast_go (W := wM (th0 SM) 0) (row := z0) (col := z1) (S0 := M1) hW hk h0 c2 64 0 1000 0 M1 rfl (by decide) hM1 em1 h571 (by rw [w2]; exact ⟨rfl, rfl, rfl⟩) Fr.rf
      have a1' : fX10_cast_49 1000 0 z0 z1 (0 : Int32) (0 : Int32) (pI S1 95 3 z2) = _ := a1
      have b1' : fX11_cast_38 1000 0 z0 z1 z2 (0 : Int32) (0 : Int32) M1 = _ := b1
      rw [rx_0_11 hX.1, rx_0_9 hX.1, q1, r1, Option.bind_some, Option.bind_some, rx_0_11 hX1.1, a1', b1']
      exact ⟨_, _, rfl, rfl, rfl, t, T, hv1.run a2 b2⟩
    · rw [if_neg c2, if_neg c2]; exact ⟨_, _, rfl, rfl, rfl, hiv⟩
