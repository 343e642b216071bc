/-! ===== signs of the text: bytes, runs ===== -/
def sb (b : Nat) : Int32 := if b < 128 then nI b else nI b - 256
def XL (t n : Nat) (bt : Nat → Nat) (S : MS) : Prop := RX t S ∧ KX S ∧ gR S 48 2 = 1 ∧ gI S 48 3 = nI n ∧ n ≤ 700 ∧ (∀ i, i < n → bt i < 256 ∧ gI S 1 i = sb (bt i))
def ML (n : Nat) (bt : Nat → Nat) (S : MS) : Prop := MR S ∧ gI S 0 29 = nI n ∧ n ≤ 700 ∧ (∀ i, i < n → bt i < 256 ∧ gI S 1 i = nI (bt i))
def NX (o j : Nat) : Prop := o = 48 ∧ 4 ≤ j ∧ j ≤ 8
def NM (o j : Nat) : Prop := o = 0 ∧ 30 ≤ j ∧ j ≤ 33
theorem kNX : ∀ q ∈ kXl, ¬ NX q.1 q.2.1 := by unfold NX; decide
theorem XL.fr {t n : Nat} {bt : Nat → Nat} {S S1 : MS} (h : XL t n bt S) (f : Fr NX S S1) : XL t n bt S1 := by
  obtain ⟨h1, h2, h3, h4, h5, h6⟩ := h
  exact ⟨h1.of f.1, h2.fr f kNX, by rw [f.ref]; exact h3, by rw [f.2 _ _ (fun hp => by unfold NX at hp; omega)]; exact h4, h5, fun i hi => by rw [f.2 _ _ (fun hp => by unfold NX at hp; omega)]; exact h6 i hi⟩
theorem ML.fr {n : Nat} {bt : Nat → Nat} {S S1 : MS} (h : ML n bt S) (f : Fr NM S S1) : ML n bt S1 := by
  obtain ⟨h1, h2, h3, h4⟩ := h
  exact ⟨h1.of f.1, by rw [f.2 _ _ (fun hp => by unfold NM at hp; omega)]; exact h2, h3, fun i hi => by rw [f.2 _ _ (fun hp => by unfold NM at hp; omega)]; exact h4 i hi⟩
/-- where a run of such bytes ends -/
def runE (P : Nat → Bool) (n : Nat) : Nat → Nat → Nat
  | 0, p => p
  | d + 1, p => if p < n ∧ P p = true then runE P n d (p + 1) else p
theorem runE_ge {P : Nat → Bool} {n : Nat} : ∀ d p, p ≤ runE P n d p
  | 0, p => Nat.le_refl _
  | d + 1, p => by
    unfold runE
    split
    · exact Nat.le_trans (Nat.le_succ p) (runE_ge d (p + 1))
    · exact Nat.le_refl _
theorem runE_le {P : Nat → Bool} {n : Nat} : ∀ d p, p ≤ n → runE P n d p ≤ n
  | 0, p, h => h
  | d + 1, p, h => by
    unfold runE
    split
    · rename_i c; exact runE_le d (p + 1) (by omega)
    · exact h
theorem runE_all {P : Nat → Bool} {n : Nat} : ∀ d p k, p ≤ k → k < runE P n d p → P k = true
  | 0, p, k, h1, h2 => by unfold runE at h2; omega
  | d + 1, p, k, h1, h2 => by
    unfold runE at h2
    split at h2
    · rename_i c
      by_cases hk : k = p
      · rw [hk]; exact c.2
      · exact runE_all d (p + 1) k (by omega) h2
    · omega
theorem runE_end {P : Nat → Bool} {n : Nat} : ∀ d p, p + d = n → ¬ (runE P n d p < n ∧ P (runE P n d p) = true)
  | 0, p, h => by unfold runE; omega
  | d + 1, p, h => by
    unfold runE
    split
    · exact runE_end d (p + 1) (by omega)
    · rename_i c; exact c
def ltB (b : Nat) : Bool := decide (97 ≤ b ∧ b ≤ 122)
def dgB (b : Nat) : Bool := decide (48 ≤ b ∧ b ≤ 57)
def wsB (b : Nat) : Bool := decide (b = 32 ∨ b = 10)
set_option maxRecDepth 100000 in
theorem byte_dec : ∀ b, b < 256 → ((sb b = 32 ↔ b = 32) ∧ (sb b = 10 ↔ b = 10)) ∧ (fX5_isLetter (sb b) S00 = some (b2i (ltB b))) ∧ (fX5_isDigit (sb b) S00 = some (b2i (dgB b))) ∧ (fX11_isSmall (nI b) S00 = some (b2i (ltB b))) ∧ (fX11_isDigit (nI b) S00 = some (b2i (dgB b))) := by decide +kernel
theorem X_let {b : Nat} {S : MS} (h : b < 256) : fX5_isLetter (sb b) S = some (b2i (ltB b)) := (byte_dec b h).2.1
theorem X_dig {b : Nat} {S : MS} (h : b < 256) : fX5_isDigit (sb b) S = some (b2i (dgB b)) := (byte_dec b h).2.2.1
theorem M_let {b : Nat} {S : MS} (h : b < 256) : fX11_isSmall (nI b) S = some (b2i (ltB b)) := (byte_dec b h).2.2.2.1
theorem M_dig {b : Nat} {S : MS} (h : b < 256) : fX11_isDigit (nI b) S = some (b2i (dgB b)) := (byte_dec b h).2.2.2.2
theorem M_here {n p : Nat} {bt : Nat → Nat} {S : MS} (h : ML n bt S) (hp : gI S 0 30 = nI p) (hpn : p ≤ n) : fX11_here 0 S = some (if p < n then nI (bt p) else -1) := by
  obtain ⟨h1, h2, h3, h4⟩ := h
  unfold fX11_here
  rw [h2, hp]
  by_cases c : p < n
  · rw [if_neg (nle (by omega) c), mr_1 h1, lm_1, bnd_nI (show p < 700 by omega) (by decide), if_pos rfl, nI_clamp (by omega), (h4 p c).2, if_pos c]
  · rw [if_pos ((nI_leI (by omega) (by omega)).mpr (by omega)), if_neg c]
/-! spaces -/
theorem X_ws_go {t n : Nat} {bt : Nat → Nat} {S0 : MS} : ∀ (d p fuel : Nat) (S : MS), p + d = n → d < fuel → XL t n bt S → gI S 48 4 = nI p → Fr NX S0 S → gI S 48 8 = gI S0 48 8 → gI S 48 7 = gI S0 48 7 →
    ∃ S1, fX5_next_8 fuel 48 S = fX5_next_60 48 S1 ∧ XL t n bt S1 ∧ gI S1 48 4 = nI (runE (fun i => wsB (bt i)) n d p) ∧ Fr NX S0 S1 ∧ gI S1 48 8 = gI S0 48 8 ∧ gI S1 48 7 = gI S0 48 7 := by
  intro d
  induction d with
  | zero =>
    intro p fuel S e1 e2 h hp hf h8 h7
    obtain ⟨f, rfl⟩ : ∃ f, fuel = f + 1 := ⟨fuel - 1, by omega⟩
    refine ⟨S, ?_, h, hp, hf, h8, h7⟩
    unfold fX5_next_8
    rw [h.2.2.2.1, hp, if_pos (by rw [show p = n from by omega]; exact Int32.le_refl _)]
  | succ d ih =>
    intro p fuel S e1 e2 h hp hf h8 h7
    obtain ⟨f, rfl⟩ : ∃ f, fuel = f + 1 := ⟨fuel - 1, by omega⟩
    have hn := h.2.2.2.2.1
    obtain ⟨b1, b2⟩ := h.2.2.2.2.2 p (by omega)
    have bd := (byte_dec (bt p) b1).1
    unfold fX5_next_8 fX5_next_47
    rw [h.2.2.2.1, hp, if_neg (nle (by omega) (by omega)), h.2.2.1, lx_1, bnd_nI (show p < 700 by omega) (by decide), if_pos rfl, if_pos rfl, nI_clamp (by omega), b2, nI_1]
    have f1 : Fr NX S (pI S 48 4 (nI (p + 1))) := Fr.rf.pI ⟨rfl, by decide, by decide⟩
    have go := ih (p + 1) f (pI S 48 4 (nI (p + 1))) (by omega) (by omega) (h.fr f1) gI_same (hf.tr f1) (by rw [gI_nek (by decide)]; exact h8) (by rw [gI_nek (by decide)]; exact h7)
    by_cases c : wsB (bt p) = true
    · have er : runE (fun i => wsB (bt i)) n (d + 1) p = runE (fun i => wsB (bt i)) n d (p + 1) := by
        show (if p < n ∧ wsB (bt p) = true then _ else _) = _
        rw [if_pos ⟨by omega, c⟩]
      rw [er]
      rcases of_decide_eq_true c with c1 | c1
      · rw [if_pos (bd.1.mpr c1)]; exact go
      · rw [if_neg (fun e => by have := bd.1.mp e; omega), if_pos (bd.2.mpr c1)]; exact go
    · have er : runE (fun i => wsB (bt i)) n (d + 1) p = p := by
        show (if p < n ∧ wsB (bt p) = true then _ else _) = _
        rw [if_neg (fun e => c e.2)]
      rw [er]
      have c1 : ¬ bt p = 32 := fun e => c (decide_eq_true (Or.inl e))
      have c2 : ¬ bt p = 10 := fun e => c (decide_eq_true (Or.inr e))
      rw [if_neg (fun e => c1 (bd.1.mp e)), if_neg (fun e => c2 (bd.2.mp e))]
      exact ⟨S, rfl, h, hp, hf, h8, h7⟩
/-- the reference behind the spaces -/
def tokM (S : MS) : Option MS := (fX11_here 0 (pI S 0 31 (gI S 0 30))).bind fun q27 => (if q27 = (-1 : Int32) then some (pI (pI S 0 31 (gI S 0 30)) 0 32 (4 : Int32)) else (fX11_isSmall q27 (pI S 0 31 (gI S 0 30))).bind fun q30 => (if q30 = (0 : Int32) then (fX11_isDigit q27 (pI S 0 31 (gI S 0 30))).bind fun q33 => (if q33 = (0 : Int32) then (fX11_sign 0 q27 (pI S 0 31 (gI S 0 30))).bind fun q36 => some q36 else fX11_token_162 1000 0 (pI (pI (pI S 0 31 (gI S 0 30)) 0 32 (2 : Int32)) 0 33 (0 : Int32))) else fX11_token_64 1000 0 (pI S 0 31 (gI S 0 30))))
theorem M_ws_go {n : Nat} {bt : Nat → Nat} {S0 : MS} : ∀ (d p fuel : Nat) (S : MS), p + d = n → d < fuel → ML n bt S → gI S 0 30 = nI p → Fr NM S0 S →
    ∃ S1, fX11_token_0 fuel 0 S = tokM S1 ∧ ML n bt S1 ∧ gI S1 0 30 = nI (runE (fun i => wsB (bt i)) n d p) ∧ Fr NM S0 S1 := by
  intro d
  induction d with
  | zero =>
    intro p fuel S e1 e2 h hp hf
    obtain ⟨f, rfl⟩ : ∃ f, fuel = f + 1 := ⟨fuel - 1, by omega⟩
    refine ⟨S, ?_, h, hp, hf⟩
    unfold fX11_token_0
    rw [M_here h hp (by omega), if_neg (show ¬ p < n by omega), Option.bind_some, if_neg (by decide), Option.bind_some, if_neg (by decide)]
    rfl
  | succ d ih =>
    intro p fuel S e1 e2 h hp hf
    obtain ⟨f, rfl⟩ : ∃ f, fuel = f + 1 := ⟨fuel - 1, by omega⟩
    have hn := h.2.2.1
    obtain ⟨b1, b2⟩ := h.2.2.2 p (by omega)
    have e10 : (nI (bt p) = 10) ↔ bt p = 10 := by rw [show (10 : Int32) = nI 10 from rfl, nI_eq (by omega) (by decide)]
    have e32 : (nI (bt p) = 32) ↔ bt p = 32 := by rw [show (32 : Int32) = nI 32 from rfl, nI_eq (by omega) (by decide)]
    unfold fX11_token_0 fX11_token_18
    rw [M_here h hp (by omega), if_pos (show p < n by omega), Option.bind_some, Option.bind_some, hp, nI_1]
    have f1 : Fr NM S (pI S 0 30 (nI (p + 1))) := Fr.rf.pI ⟨rfl, by decide, by decide⟩
    have go := ih (p + 1) f (pI S 0 30 (nI (p + 1))) (by omega) (by omega) (h.fr f1) gI_same (hf.tr f1)
    by_cases c : wsB (bt p) = true
    · have er : runE (fun i => wsB (bt i)) n (d + 1) p = runE (fun i => wsB (bt i)) n d (p + 1) := by
        show (if p < n ∧ wsB (bt p) = true then _ else _) = _
        rw [if_pos ⟨by omega, c⟩]
      rw [er]
      rcases of_decide_eq_true c with c1 | c1
      · rw [if_neg (fun e => by have := e10.mp e; omega), if_pos (e32.mpr c1)]; exact go
      · rw [if_pos (e10.mpr c1)]; exact go
    · have er : runE (fun i => wsB (bt i)) n (d + 1) p = p := by
        show (if p < n ∧ wsB (bt p) = true then _ else _) = _
        rw [if_neg (fun e => c e.2)]
      rw [er]
      have c1 : ¬ bt p = 32 := fun e => c (decide_eq_true (Or.inl e))
      have c2 : ¬ bt p = 10 := fun e => c (decide_eq_true (Or.inr e))
      rw [if_neg (fun e => c2 (e10.mp e)), if_neg (fun e => c1 (e32.mp e))]
      refine ⟨S, ?_, h, hp, hf⟩
      unfold tokM
      rw [hp]
/-! numbers -/
def nrR (x y : Nat) : Prop := (x = y ∧ y ≤ 99999) ∨ (99999 < x ∧ 99999 < y ∧ x ≤ 1000000 ∧ y ≤ 999999)
def nrX (bt : Nat → Nat) : Nat → Nat → Nat → Nat
  | 0, _, v => v
  | d + 1, p, v => nrX bt d (p + 1) (min 1000000 (v * 10 + bt p - 48))
def nrM (bt : Nat → Nat) : Nat → Nat → Nat → Nat
  | 0, _, v => v
  | d + 1, p, v => nrM bt d (p + 1) (if v ≤ 99999 then 10 * v + bt p - 48 else v)
theorem nr_rel {bt : Nat → Nat} : ∀ d p x y, (∀ k, p ≤ k → k < p + d → dgB (bt k) = true) → nrR x y → nrR (nrX bt d p x) (nrM bt d p y)
  | 0, _, _, _, _, h => h
  | d + 1, p, x, y, hd, h => by
    have hb := of_decide_eq_true (hd p (Nat.le_refl _) (by omega))
    refine nr_rel d (p + 1) _ _ (fun k h1 h2 => hd k (by omega) (by omega)) ?_
    unfold nrR at *
    by_cases c : y ≤ 99999
    · rw [if_pos c]; omega
    · rw [if_neg c]; omega
theorem X_num_go {t n : Nat} {bt : Nat → Nat} {S0 : MS} : ∀ (d p fuel v : Nat) (S : MS), p + d = n → d < fuel → XL t n bt S → gI S 48 4 = nI p → gI S 48 6 = nI v → v ≤ 1000000 → Fr NX S0 S →
    ∃ S1 e, e = runE (fun i => dgB (bt i)) n d p ∧ fX5_scanNumber_5 fuel 48 S = some S1 ∧ gI S1 48 4 = nI e ∧ gI S1 48 6 = nI (nrX bt (e - p) p v) ∧ nrX bt (e - p) p v ≤ 1000000 ∧ gI S1 48 5 = gI S 48 5 ∧ gI S1 48 7 = gI S 48 7 ∧ gI S1 48 8 = gI S 48 8 ∧ Fr NX S0 S1 := by
  intro d
  induction d with
  | zero =>
    intro p fuel v S e1 e2 h hp hv hv1 hf
    obtain ⟨f, rfl⟩ : ∃ f, fuel = f + 1 := ⟨fuel - 1, by omega⟩
    refine ⟨S, p, rfl, ?_, hp, by rw [Nat.sub_self]; exact hv, by rw [Nat.sub_self]; exact hv1, rfl, rfl, rfl, hf⟩
    unfold fX5_scanNumber_5
    rw [h.2.2.2.1, hp, if_pos (by rw [show p = n from by omega]; exact Int32.le_refl _)]
  | succ d ih =>
    intro p fuel v S e1 e2 h hp hv hv1 hf
    obtain ⟨f, rfl⟩ : ∃ f, fuel = f + 1 := ⟨fuel - 1, by omega⟩
    have hn := h.2.2.2.2.1
    obtain ⟨b1, b2⟩ := h.2.2.2.2.2 p (by omega)
    unfold fX5_scanNumber_5 fX5_scanNumber_61
    rw [h.2.2.2.1, hp, if_neg (nle (by omega) (by omega)), h.2.2.1, lx_1, bnd_nI (show p < 700 by omega) (by decide), if_pos rfl, if_pos rfl, nI_clamp (by omega), b2, X_dig b1, Option.bind_some]
    cases c : dgB (bt p) with
    | false =>
      refine ⟨S, p, ?_, by rw [if_pos b2i_f], hp, by rw [Nat.sub_self]; exact hv, by rw [Nat.sub_self]; exact hv1, rfl, rfl, rfl, hf⟩
      show p = (if p < n ∧ dgB (bt p) = true then _ else p)
      rw [if_neg (fun e => by rw [c] at e; exact absurd e.2 (by decide))]
    | true =>
      have hb := of_decide_eq_true c
      have esb : sb (bt p) = nI (bt p) := if_pos (by omega)
      have ev : nI v * 10 + nI (bt p) - 48 = nI (v * 10 + bt p - 48) := by
        rw [show (10 : Int32) = nI 10 from rfl, nI_mul, nI_add, show (48 : Int32) = nI 48 from rfl, nI_subN (by omega)]
      have emin : (if nI (v * 10 + bt p - 48) < 1000000 then nI (v * 10 + bt p - 48) else (1000000 : Int32)) = nI (min 1000000 (v * 10 + bt p - 48)) := by
        rw [show (1000000 : Int32) = nI 1000000 from rfl]
        by_cases q : v * 10 + bt p - 48 < 1000000
        · rw [if_pos (nI_lt q (by decide)), Nat.min_eq_right (by omega)]
        · rw [if_neg (by rw [nI_ltI (by omega) (by decide)]; exact q), Nat.min_eq_left (by omega)]
      rw [if_neg b2i_t, hv, esb, ev, emin, gI_nek (by decide), hp, nI_1]
      have f1 : Fr NX S (pI (pI S 48 6 (nI (min 1000000 (v * 10 + bt p - 48)))) 48 4 (nI (p + 1))) := (Fr.rf.pI ⟨rfl, by decide, by decide⟩).pI ⟨rfl, by decide, by decide⟩
      obtain ⟨S1, e, q0, q1, q2, q3, q3b, q4, q5, q6, q7⟩ := ih (p + 1) f (min 1000000 (v * 10 + bt p - 48)) _ (by omega) (by omega) (h.fr f1) gI_same (by rw [gI_nek (by decide), gI_same]) (Nat.min_le_left _ _) (hf.tr f1)
      have hge : p + 1 ≤ e := by rw [q0]; exact runE_ge _ _
      have es : nrX bt (e - p) p v = nrX bt (e - (p + 1)) (p + 1) (min 1000000 (v * 10 + bt p - 48)) := by
        rw [show e - p = (e - (p + 1)) + 1 from by omega]; rfl
      refine ⟨S1, e, ?_, q1, q2, by rw [es]; exact q3, by rw [es]; exact q3b, ?_, ?_, ?_, q7⟩
      · show e = (if p < n ∧ dgB (bt p) = true then _ else p)
        rw [if_pos ⟨by omega, c⟩]; exact q0
      · rw [q4, gI_nek (by decide), gI_nek (by decide)]
      · rw [q5, gI_nek (by decide), gI_nek (by decide)]
      · rw [q6, gI_nek (by decide), gI_nek (by decide)]
theorem M_num_go {n : Nat} {bt : Nat → Nat} {S0 : MS} : ∀ (d p fuel v : Nat) (S : MS), p + d = n → d < fuel → ML n bt S → gI S 0 30 = nI p → gI S 0 33 = nI v → v ≤ 999999 → Fr NM S0 S →
    ∃ S1, fX11_token_162 fuel 0 S = some S1 ∧ gI S1 0 30 = nI (runE (fun i => dgB (bt i)) n d p) ∧ gI S1 0 33 = nI (nrM bt (runE (fun i => dgB (bt i)) n d p - p) p v) ∧ gI S1 0 32 = gI S 0 32 ∧ gI S1 0 31 = gI S 0 31 ∧ Fr NM S0 S1 := by
  intro d
  induction d with
  | zero =>
    intro p fuel v S e1 e2 h hp hv hv1 hf
    obtain ⟨f, rfl⟩ : ∃ f, fuel = f + 1 := ⟨fuel - 1, by omega⟩
    refine ⟨S, ?_, hp, by show _ = nI (nrM bt (p - p) p v); rw [Nat.sub_self]; exact hv, rfl, rfl, hf⟩
    unfold fX11_token_162
    rw [M_here h hp (by omega), if_neg (show ¬ p < n by omega), Option.bind_some]
    rfl
  | succ d ih =>
    intro p fuel v S e1 e2 h hp hv hv1 hf
    obtain ⟨f, rfl⟩ : ∃ f, fuel = f + 1 := ⟨fuel - 1, by omega⟩
    have hn := h.2.2.1
    obtain ⟨b1, b2⟩ := h.2.2.2 p (by omega)
    unfold fX11_token_162 fX11_token_204
    rw [M_here h hp (by omega), if_pos (show p < n by omega), Option.bind_some, M_dig b1, Option.bind_some, Option.bind_some]
    cases c : dgB (bt p) with
    | false =>
      have er : runE (fun i => dgB (bt i)) n (d + 1) p = p := by
        show (if p < n ∧ dgB (bt p) = true then _ else p) = p
        rw [if_neg (fun e => by rw [c] at e; exact absurd e.2 (by decide))]
      rw [er, if_pos b2i_f, Nat.sub_self]
      exact ⟨S, rfl, hp, hv, rfl, rfl, hf⟩
    | true =>
      have hb := of_decide_eq_true c
      have er : runE (fun i => dgB (bt i)) n (d + 1) p = runE (fun i => dgB (bt i)) n d (p + 1) := by
        show (if p < n ∧ dgB (bt p) = true then _ else p) = _
        rw [if_pos ⟨by omega, c⟩]
      have hge := runE_ge (P := fun i => dgB (bt i)) (n := n) d (p + 1)
      have es : nrM bt (runE (fun i => dgB (bt i)) n d (p + 1) - p) p v = nrM bt (runE (fun i => dgB (bt i)) n d (p + 1) - (p + 1)) (p + 1) (if v ≤ 99999 then 10 * v + bt p - 48 else v) := by
        rw [show runE (fun i => dgB (bt i)) n d (p + 1) - p = (runE (fun i => dgB (bt i)) n d (p + 1) - (p + 1)) + 1 from by omega]; rfl
      rw [er, es, if_neg b2i_t, hv]
      have step : ∀ x : Nat, x ≤ 999999 → ∃ S1, fX11_token_162 f 0 (pI (pI S 0 33 (nI x)) 0 30 ((gI (pI S 0 33 (nI x)) 0 30) + 1)) = some S1 ∧ gI S1 0 30 = nI (runE (fun i => dgB (bt i)) n d (p + 1)) ∧ gI S1 0 33 = nI (nrM bt (runE (fun i => dgB (bt i)) n d (p + 1) - (p + 1)) (p + 1) x) ∧ gI S1 0 32 = gI S 0 32 ∧ gI S1 0 31 = gI S 0 31 ∧ Fr NM S0 S1 := by
        intro x hx
        rw [gI_nek (by decide), hp, nI_1]
        have f1 : Fr NM S (pI (pI S 0 33 (nI x)) 0 30 (nI (p + 1))) := (Fr.rf.pI ⟨rfl, by decide, by decide⟩).pI ⟨rfl, by decide, by decide⟩
        obtain ⟨S1, q1, q2, q3, q4, q5, q6⟩ := ih (p + 1) f x _ (by omega) (by omega) (h.fr f1) gI_same (by rw [gI_nek (by decide), gI_same]) hx (hf.tr f1)
        exact ⟨S1, q1, q2, q3, by rw [q4, gI_nek (by decide), gI_nek (by decide)], by rw [q5, gI_nek (by decide), gI_nek (by decide)], q6⟩
      by_cases q : v ≤ 99999
      · have ev : 10 * nI v + nI (bt p) - 48 = nI (10 * v + bt p - 48) := by
          rw [show (10 : Int32) = nI 10 from rfl, nI_mul, nI_add, show (48 : Int32) = nI 48 from rfl, nI_subN (by omega)]
        rw [if_pos (show nI v ≤ (99999 : Int32) from (nI_leI (b := 99999) (by omega) (by decide)).mpr q), if_pos q, ev]
        exact step _ (by omega)
      · rw [if_neg (show ¬ nI v ≤ (99999 : Int32) from fun e => q ((nI_leI (b := 99999) (by omega) (by decide)).mp e)), if_neg q]
        exact step v hv1
