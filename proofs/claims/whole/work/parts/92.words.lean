/-! ===== words and names of the text ===== -/
theorem nI_or (x y : Nat) : nI x ||| nI y = nI (x ||| y) := by
  apply Int32.toBitVec_inj.mp
  show BitVec.ofNat 32 x ||| BitVec.ofNat 32 y = BitVec.ofNat 32 (x ||| y)
  exact (BitVec.ofNat_or).symm
theorem nI_sh5 {v : Nat} (h : v * 32 < 2 ^ 31) : nI v <<< ((5 : Int32) &&& 31) = nI (v * 32) := by
  apply Int32.toBitVec_inj.mp
  apply BitVec.eq_of_toNat_eq
  show (BitVec.ofNat 32 v <<< (BitVec.smod (5#32 &&& 31#32) 32#32)).toNat = (BitVec.ofNat 32 (v * 32)).toNat
  rw [BitVec.shiftLeft_eq', show (BitVec.smod (5#32 &&& 31#32) 32#32).toNat = 5 from rfl, BitVec.toNat_shiftLeft, BitVec.toNat_ofNat, BitVec.toNat_ofNat, Nat.shiftLeft_eq, Nat.mod_eq_of_lt (show v < 2 ^ 32 by omega)]
theorem or_add {s q y : Nat} (h : y < 2 ^ s) : 2 ^ s * q ||| y = 2 ^ s * q + y := (Nat.two_pow_add_eq_or_of_lt h q).symm
set_option maxRecDepth 100000 in
theorem shl_dec : ∀ l, l < 32 → ∀ c, c < 6 → nI l <<< (((25 : Int32) - 5 * nI c) &&& 31) = nI (l * 2 ^ (25 - 5 * c)) := by decide +kernel
/-- the letters as numbers from 1 on, 0 behind them -/
def ltN (bt : Nat → Nat) (a L k : Nat) : Nat := if k < L then bt (a + k) - 96 else 0
def hor (f : Nat → Nat) : Nat := ((((f 0 * 32 + f 1) * 32 + f 2) * 32 + f 3) * 32 + f 4) * 32 + f 5
def pkN (bt : Nat → Nat) (a : Nat) : Nat → Nat
  | 0 => 0
  | c + 1 => if c < 6 then pkN bt a c + (bt (a + c) - 96) * 2 ^ (25 - 5 * c) else pkN bt a c
theorem pk_mod {bt : Nat → Nat} {a : Nat} : ∀ c, c ≤ 6 → (∀ k, k < c → bt (a + k) - 96 < 32) → ∃ q, pkN bt a c = 2 ^ (30 - 5 * c) * q ∧ q < 2 ^ (5 * c)
  | 0, _, _ => ⟨0, rfl, by decide⟩
  | c + 1, h, hl => by
    obtain ⟨q, e, hq⟩ := pk_mod (bt := bt) (a := a) c (by omega) (fun k hk => hl k (by omega))
    have hlc := hl c (by omega)
    refine ⟨q * 32 + (bt (a + c) - 96), ?_, ?_⟩
    · unfold pkN
      rw [if_pos (by omega), e, show 30 - 5 * c = (25 - 5 * c) + 5 from by omega, Nat.pow_add, show 30 - 5 * (c + 1) = 25 - 5 * c from by omega, Nat.mul_add, Nat.mul_comm (bt (a + c) - 96), Nat.mul_assoc, Nat.mul_comm q 32]
    · rw [show 5 * (c + 1) = 5 * c + 5 from by omega, Nat.pow_add]
      omega
theorem pk_step {bt : Nat → Nat} {a c : Nat} (hc : c < 6) (hl : ∀ k, k ≤ c → bt (a + k) - 96 < 32) : nI (pkN bt a c) ||| (nI (bt (a + c) - 96) <<< (((25 : Int32) - 5 * nI c) &&& 31)) = nI (pkN bt a (c + 1)) := by
  obtain ⟨q, e, hq⟩ := pk_mod (bt := bt) (a := a) c (by omega) (fun k hk => hl k (by omega))
  have hlc := hl c (Nat.le_refl _)
  rw [shl_dec _ hlc c hc, nI_or]
  show nI _ = nI (if c < 6 then _ else _)
  rw [if_pos hc, e]
  congr 1
  refine or_add ?_
  rw [show 30 - 5 * c = 5 + (25 - 5 * c) from by omega, Nat.pow_add]
  exact Nat.mul_lt_mul_of_pos_right hlc (Nat.two_pow_pos _)
theorem pk_hor {bt : Nat → Nat} {a L : Nat} (h : L ≤ 6) : pkN bt a L = hor (ltN bt a L) := by
  rcases (by omega : L = 0 ∨ L = 1 ∨ L = 2 ∨ L = 3 ∨ L = 4 ∨ L = 5 ∨ L = 6) with rfl | rfl | rfl | rfl | rfl | rfl | rfl <;> simp [pkN, hor, ltN] <;> omega
theorem pk_more {bt : Nat → Nat} {a : Nat} : ∀ c, 6 ≤ c → pkN bt a c = pkN bt a 6 := by
  intro c h
  induction c with
  | zero => omega
  | succ c ih =>
    by_cases hc : c = 5
    · subst hc; rfl
    · show (if c < 6 then _ else pkN bt a c) = _
      rw [if_neg (by omega)]; exact ih (by omega)
theorem X_word_go {t n a : Nat} {bt : Nat → Nat} {S0 : MS} : ∀ (d p fuel c : Nat) (S : MS), p + d = n → d < fuel → p = a + c → (∀ k, k < c → ltB (bt (a + k)) = true) → XL t n bt S → gI S 48 4 = nI p → gI S 48 6 = nI (pkN bt a c) → Fr NX S0 S → gI S 48 7 = gI S0 48 7 → gI S 48 8 = gI S0 48 8 →
    ∃ S1, fX5_scanWord_2 fuel 48 (nI c) S = fX5_scanWord_80 48 (nI (runE (fun i => ltB (bt i)) n d p - a)) S1 ∧ XL t n bt S1 ∧ gI S1 48 4 = nI (runE (fun i => ltB (bt i)) n d p) ∧ gI S1 48 6 = nI (pkN bt a (runE (fun i => ltB (bt i)) n d p - a)) ∧ Fr NX S0 S1 ∧ gI S1 48 7 = gI S0 48 7 ∧ gI S1 48 8 = gI S0 48 8 := by
  intro d
  induction d with
  | zero =>
    intro p fuel c S e1 e2 e3 hl h hp hv hf h7 h8
    obtain ⟨f, rfl⟩ : ∃ f, fuel = f + 1 := ⟨fuel - 1, by omega⟩
    have er : runE (fun i => ltB (bt i)) n 0 p = p := rfl
    rw [er, show p - a = c from by omega]
    refine ⟨S, ?_, h, hp, hv, hf, h7, h8⟩
    unfold fX5_scanWord_2
    rw [h.2.2.2.1, hp, if_pos (by rw [show p = n from by omega]; exact Int32.le_refl _)]
  | succ d ih =>
    intro p fuel c S e1 e2 e3 hl h hp hv hf h7 h8
    obtain ⟨f, rfl⟩ : ∃ f, fuel = f + 1 := ⟨fuel - 1, by omega⟩
    have hn := h.2.2.2.2.1
    obtain ⟨b1, b2⟩ := h.2.2.2.2.2 p (by omega)
    unfold fX5_scanWord_2 fX5_scanWord_64
    rw [h.2.2.2.1, hp, if_neg (nle (by omega) (by omega)), h.2.2.1, lx_1, bnd_nI (show p < 700 by omega) (by decide), if_pos rfl, if_pos rfl, nI_clamp (by omega), b2, X_let b1, Option.bind_some]
    cases cl : ltB (bt p) with
    | false =>
      have er : runE (fun i => ltB (bt i)) n (d + 1) p = p := by
        show (if p < n ∧ ltB (bt p) = true then _ else p) = p
        rw [if_neg (fun e => by rw [cl] at e; exact absurd e.2 (by decide))]
      rw [er, show p - a = c from by omega, if_pos b2i_f]
      exact ⟨S, rfl, h, hp, hv, hf, h7, h8⟩
    | true =>
      have hb := of_decide_eq_true cl
      have esb : sb (bt p) = nI (bt p) := if_pos (by omega)
      have er : runE (fun i => ltB (bt i)) n (d + 1) p = runE (fun i => ltB (bt i)) n d (p + 1) := by
        show (if p < n ∧ ltB (bt p) = true then _ else p) = _
        rw [if_pos ⟨by omega, cl⟩]
      have hl' : ∀ k, k < c + 1 → ltB (bt (a + k)) = true := fun k hk => by
        by_cases hkc : k = c
        · rw [hkc, ← e3]; exact cl
        · exact hl k (by omega)
      rw [er, if_neg b2i_t]
      by_cases c6 : c < 6
      · have el : nI (bt p) - 97 + 1 = nI (bt (a + c) - 96) := by
          rw [show (97 : Int32) = nI 97 from rfl, nI_subN (by omega), nI_1, ← e3]; congr 1; omega
        rw [if_neg (show ¬ (6 : Int32) ≤ nI c from nle (n := 6) (by decide) c6), esb, el, hv, pk_step c6 (fun k hk => by have := of_decide_eq_true (hl' k (by omega)); omega), gI_nek (by decide), hp, nI_1, nI_1]
        have f1 : Fr NX S (pI (pI S 48 6 (nI (pkN bt a (c + 1)))) 48 4 (nI (p + 1))) := (Fr.rf.pI ⟨rfl, by decide, by decide⟩).pI ⟨rfl, by decide, by decide⟩
        exact ih (p + 1) f (c + 1) _ (by omega) (by omega) (by omega) hl' (h.fr f1) gI_same (by rw [gI_nek (by decide), gI_same]) (hf.tr f1) (by rw [gI_nek (by decide), gI_nek (by decide)]; exact h7) (by rw [gI_nek (by decide), gI_nek (by decide)]; exact h8)
      · rw [if_pos (show (6 : Int32) ≤ nI c from (nI_leI (a := 6) (by decide) (by omega)).mpr (by omega)), nI_1, nI_1]
        have f1 : Fr NX S (pI S 48 4 (nI (p + 1))) := Fr.rf.pI ⟨rfl, by decide, by decide⟩
        refine ih (p + 1) f (c + 1) _ (by omega) (by omega) (by omega) hl' (h.fr f1) gI_same ?_ (hf.tr f1) (by rw [gI_nek (by decide)]; exact h7) (by rw [gI_nek (by decide)]; exact h8)
        rw [gI_nek (by decide), hv, pk_more c (by omega), pk_more (c + 1) (by omega)]
/-- the first of the words that is it -/
def wfi (m : Nat → Bool) : Nat → Nat → Option Nat
  | 0, _ => none
  | d + 1, i => if m i = true then some i else wfi m d (i + 1)
theorem wfi_lt {m : Nat → Bool} : ∀ d i k, wfi m d i = some k → k < i + d
  | 0, i, k, h => by cases h
  | d + 1, i, k, h => by
    unfold wfi at h
    split at h
    · cases h; omega
    · have := wfi_lt d (i + 1) k h; omega
theorem wfi_congr {m q : Nat → Bool} : ∀ d i, (∀ k, i ≤ k → k < i + d → m k = q k) → wfi m d i = wfi q d i
  | 0, _, _ => rfl
  | d + 1, i, h => by
    unfold wfi
    rw [h i (Nat.le_refl _) (by omega), wfi_congr d (i + 1) (fun k h1 h2 => h k (by omega) (by omega))]
theorem X_wfi_go {t n : Nat} {bt : Nat → Nat} {S0 : MS} : ∀ (d i fuel : Nat) (S : MS), 24 = i + d → d < fuel → XL t n bt S → gI S 48 5 = 2 → Fr NX S0 S →
    ∃ S1, fX5_scanWord_97 fuel 48 (nI i) S = some S1 ∧ gI S1 48 5 = (match wfi (fun k => decide (gI S 49 k = gI S 48 6)) d i with | some k => nI (20 + k) | none => 2) ∧ gI S1 48 6 = gI S 48 6 ∧ gI S1 48 4 = gI S 48 4 ∧ gI S1 48 7 = gI S 48 7 ∧ gI S1 48 8 = gI S 48 8 ∧ Fr NX S0 S1 := by
  intro d
  induction d with
  | zero =>
    intro i fuel S e1 e2 h hk hf
    obtain ⟨f, rfl⟩ : ∃ f, fuel = f + 1 := ⟨fuel - 1, by omega⟩
    refine ⟨S, ?_, hk, rfl, rfl, rfl, rfl, hf⟩
    unfold fX5_scanWord_97
    rw [show i = 24 from by omega, if_pos (by decide)]
  | succ d ih =>
    intro i fuel S e1 e2 h hk hf
    obtain ⟨f, rfl⟩ : ∃ f, fuel = f + 1 := ⟨fuel - 1, by omega⟩
    unfold fX5_scanWord_97 fX5_scanWord_132
    rw [if_neg (show ¬ (24 : Int32) ≤ nI i from nle (n := 24) (by decide) (by omega)), if_pos hk, rx_48_0 h.1, lx_49, bnd_nI (show i < 24 by omega) (by decide), if_pos rfl, nI_clamp (by omega), nI_1]
    show ∃ S1, _ ∧ gI S1 48 5 = (match (if decide (gI S 49 i = gI S 48 6) = true then some i else wfi (fun k => decide (gI S 49 k = gI S 48 6)) d (i + 1)) with | some k => nI (20 + k) | none => 2) ∧ _
    by_cases c : gI S 49 i = gI S 48 6
    · rw [if_pos c, if_pos (decide_eq_true c), show (20 : Int32) + nI i = nI (20 + i) from nI_add 20 i]
      have f1 : Fr NX S (pI S 48 5 (nI (20 + i))) := Fr.rf.pI ⟨rfl, by decide, by decide⟩
      refine ⟨pI S 48 5 (nI (20 + i)), ?_, gI_same, gI_nek (by decide), gI_nek (by decide), gI_nek (by decide), gI_nek (by decide), hf.tr f1⟩
      obtain ⟨g, rfl⟩ : ∃ g, f = g + 1 := ⟨f - 1, by omega⟩
      unfold fX5_scanWord_97
      by_cases c24 : (24 : Int32) ≤ nI (i + 1)
      · rw [if_pos c24]
      · rw [if_neg c24, gI_same, if_neg (by rw [show (2 : Int32) = nI 2 from rfl, nI_eq (by omega) (by decide)]; omega)]
    · rw [if_neg c, if_neg (fun e => c (of_decide_eq_true e))]
      exact ih (i + 1) f S (by omega) (by omega) h hk hf
/-! the words, letter by letter -/
def ws (i : Nat) : Nat := [0, 5, 9, 14, 18, 23, 28, 34, 38, 44, 49, 53, 58, 63, 69, 72, 76, 80, 84, 88, 93, 98, 104, 108, 113].getD i 113
def wn (i : Nat) : Nat := [4, 3, 4, 3, 4, 4, 5, 3, 5, 4, 3, 4, 4, 5, 2, 3, 3, 3, 3, 4, 4, 5, 3, 4].getD i 0
def cw (i k : Nat) : Nat := (lngC (nI (ws i + k))).toNatClampNeg
set_option maxRecDepth 100000 in
theorem wd_dec : ∀ i, i < 24 → ws i + wn i + 1 = ws (i + 1) ∧ 1 ≤ wn i ∧ wn i ≤ 5 ∧ ws i + wn i < 113 ∧ lngC (nI (ws i + wn i)) = 32 ∧ (∀ k, k < wn i → lngC (nI (ws i + k)) = nI (cw i k) ∧ 97 ≤ cw i k ∧ cw i k ≤ 122) := by decide +kernel
set_option maxRecDepth 100000 in
theorem kw_dec : ∀ i, i < 24 → (49, i, nI (hor (fun k => if k < wn i then cw i k - 96 else 0))) ∈ kXl := by decide +kernel
def mtB (bt : Nat → Nat) (a L i : Nat) : Bool := decide (L = wn i ∧ ∀ k, k < wn i → bt (a + k) = cw i k)
theorem lng113 : lngB.length = 113 := rfl
theorem M_w97 {K4 : Nat → Int32 → Int32 → MS → Option Int32} {i : Nat} {S : MS} (hi : i < 24) : ∀ (d j fuel : Nat), wn i = j + d → d < fuel → fX11_word_97 K4 fuel 0 (nI i) (nI (ws i + j)) S = K4 0 (nI (i + 1)) (nI (ws (i + 1))) S := by
  obtain ⟨w1, w2, w3, w4, w5, w6⟩ := wd_dec i hi
  intro d
  induction d with
  | zero =>
    intro j fuel e1 e2
    obtain ⟨f, rfl⟩ : ∃ f, fuel = f + 1 := ⟨fuel - 1, by omega⟩
    have hj : j = wn i := by omega
    subst hj
    unfold fX11_word_97
    rw [lng113, bnd_nI w4 (by decide), if_pos rfl, w5, if_pos rfl, nI_1, nI_1, w1]
  | succ d ih =>
    intro j fuel e1 e2
    obtain ⟨f, rfl⟩ : ∃ f, fuel = f + 1 := ⟨fuel - 1, by omega⟩
    obtain ⟨c1, c2, c3⟩ := w6 j (by omega)
    unfold fX11_word_97
    rw [lng113, bnd_nI (show ws i + j < 113 by omega) (by decide), if_pos rfl, c1, if_neg (by rw [show (32 : Int32) = nI 32 from rfl, nI_eq (by omega) (by decide)]; omega), nI_1]
    exact ih (j + 1) f (by omega) (by omega)
theorem M_w15 {K4 : Nat → Int32 → Int32 → MS → Option Int32} {a L i : Nat} {bt : Nat → Nat} {S : MS} (hM : MR S) (hi : i < 24) (h31 : gI S 0 31 = nI a) (h30 : gI S 0 30 = nI (a + L)) (h7 : a + L ≤ 700) (hb : ∀ k, k < L → bt (a + k) < 256 ∧ gI S 1 (a + k) = nI (bt (a + k))) : ∀ (d j fuel : Nat), wn i = j + d → d < fuel → j ≤ L → (∀ k, k < j → bt (a + k) = cw i k) →
    fX11_word_15 K4 fuel 0 (nI i) (nI (ws i)) (nI j) S = if mtB bt a L i = true then some (nI i) else K4 0 (nI (i + 1)) (nI (ws (i + 1))) S := by
  obtain ⟨w1, w2, w3, w4, w5, w6⟩ := wd_dec i hi
  have skip : fX11_word_97 K4 1000 0 (nI i) (nI (ws i)) S = K4 0 (nI (i + 1)) (nI (ws (i + 1))) S := M_w97 hi (wn i) 0 1000 (Nat.zero_add _).symm (by omega)
  intro d
  induction d with
  | zero =>
    intro j fuel e1 e2 hj hk
    obtain ⟨f, rfl⟩ : ∃ f, fuel = f + 1 := ⟨fuel - 1, by omega⟩
    have hj' : j = wn i := by omega
    subst hj'
    unfold fX11_word_15 fX11_word_69
    rw [nI_add, lng113, bnd_nI w4 (by decide), if_pos rfl, if_pos rfl, w5, if_pos rfl, if_pos rfl, h31, h30, nI_add, skip]
    by_cases c : L = wn i
    · rw [if_pos (by rw [c]), if_pos (show mtB bt a L i = true from decide_eq_true ⟨c, hk⟩)]
    · rw [if_neg (by rw [nI_eq (by omega) (by omega)]; omega), if_neg (fun e => c (of_decide_eq_true e).1)]
  | succ d ih =>
    intro j fuel e1 e2 hj hk
    obtain ⟨f, rfl⟩ : ∃ f, fuel = f + 1 := ⟨fuel - 1, by omega⟩
    obtain ⟨c1, c2, c3⟩ := w6 j (by omega)
    have n32 : ¬ nI (cw i j) = 32 := by rw [show (32 : Int32) = nI 32 from rfl, nI_eq (by omega) (by decide)]; omega
    unfold fX11_word_15 fX11_word_69
    rw [nI_add, lng113, bnd_nI (show ws i + j < 113 by omega) (by decide), if_pos rfl, if_pos rfl, if_pos rfl, c1, if_neg n32, if_neg n32, h31, h30, nI_add, skip]
    by_cases c : j < L
    · obtain ⟨b1, b2⟩ := hb j c
      rw [if_neg (nle (by omega) (by omega)), mr_1 hM, lm_1, bnd_nI (show a + j < 700 by omega) (by decide), if_pos rfl, nI_clamp (by omega), b2]
      by_cases ce : bt (a + j) = cw i j
      · rw [if_pos (by rw [ce]), nI_1]
        exact ih (j + 1) f (by omega) (by omega) (by omega) (fun k hkj => by
          by_cases hkj' : k = j
          · rw [hkj']; exact ce
          · exact hk k (by omega))
      · rw [if_neg (by rw [nI_eq (by omega) (by omega)]; exact ce), if_neg (fun e => ce ((of_decide_eq_true e).2 j (by omega)))]
    · rw [if_pos ((nI_leI (by omega) (by omega)).mpr (by omega)), if_neg (fun e => by have := (of_decide_eq_true e).1; omega)]
theorem M_w4 {a L : Nat} {bt : Nat → Nat} {S : MS} (hM : MR S) (h31 : gI S 0 31 = nI a) (h30 : gI S 0 30 = nI (a + L)) (h7 : a + L ≤ 700) (hb : ∀ k, k < L → bt (a + k) < 256 ∧ gI S 1 (a + k) = nI (bt (a + k))) : ∀ (d i fuel : Nat), 24 = i + d → d < fuel → fX11_word_4 fuel 0 (nI i) (nI (ws i)) S = some (match wfi (mtB bt a L) d i with | some k => nI k | none => -1) := by
  intro d
  induction d with
  | zero =>
    intro i fuel e1 e2
    obtain ⟨f, rfl⟩ : ∃ f, fuel = f + 1 := ⟨fuel - 1, by omega⟩
    unfold fX11_word_4
    rw [show i = 24 from by omega, if_pos (by decide)]; rfl
  | succ d ih =>
    intro i fuel e1 e2
    obtain ⟨f, rfl⟩ : ∃ f, fuel = f + 1 := ⟨fuel - 1, by omega⟩
    obtain ⟨w1, w2, w3, w4, -, -⟩ := wd_dec i (by omega)
    have w15 := M_w15 (K4 := fX11_word_4 f) hM (show i < 24 by omega) h31 h30 h7 hb (wn i) 0 1000 (Nat.zero_add _).symm (by omega) (Nat.zero_le _) (fun k hk => by omega)
    have w15' : fX11_word_15 (fX11_word_4 f) 1000 0 (nI i) (nI (ws i)) (0 : Int32) S = _ := w15
    unfold fX11_word_4
    rw [if_neg (show ¬ (113 : Int32) ≤ nI (ws i) from nle (n := 113) (by decide) (by omega)), w15', ih (i + 1) f (by omega) (by omega)]
    show _ = some (match (if mtB bt a L i = true then some i else wfi (mtB bt a L) d (i + 1)) with | some k => nI k | none => -1)
    by_cases c : mtB bt a L i = true
    · rw [if_pos c, if_pos c]
    · rw [if_neg c, if_neg c]
/-- the packed letters tell the word -/
theorem hor_inj {f g : Nat → Nat} (hf : ∀ k, k < 6 → f k < 32) (hg : ∀ k, k < 6 → g k < 32) (h : hor f = hor g) : ∀ k, k < 6 → f k = g k := by
  have a0 := hf 0 (by decide); have a1 := hf 1 (by decide); have a2 := hf 2 (by decide); have a3 := hf 3 (by decide); have a4 := hf 4 (by decide); have a5 := hf 5 (by decide)
  have b0 := hg 0 (by decide); have b1 := hg 1 (by decide); have b2 := hg 2 (by decide); have b3 := hg 3 (by decide); have b4 := hg 4 (by decide); have b5 := hg 5 (by decide)
  unfold hor at h
  intro k hk
  rcases (by omega : k = 0 ∨ k = 1 ∨ k = 2 ∨ k = 3 ∨ k = 4 ∨ k = 5) with rfl | rfl | rfl | rfl | rfl | rfl <;> omega
theorem hor_lt {f : Nat → Nat} (hf : ∀ k, k < 6 → f k < 32) : hor f < 2 ^ 30 := by
  have a0 := hf 0 (by decide); have a1 := hf 1 (by decide); have a2 := hf 2 (by decide); have a3 := hf 3 (by decide); have a4 := hf 4 (by decide); have a5 := hf 5 (by decide)
  unfold hor; omega
theorem word_eq {bt : Nat → Nat} {a L i : Nat} (hi : i < 24) (hL : L ≤ 6) (hl : ∀ k, k < L → ltB (bt (a + k)) = true) : (nI (hor (fun k => if k < wn i then cw i k - 96 else 0)) = nI (hor (ltN bt a L))) ↔ (L = wn i ∧ ∀ k, k < wn i → bt (a + k) = cw i k) := by
  obtain ⟨w1, w2, w3, w4, w5, w6⟩ := wd_dec i hi
  have hf : ∀ k, k < 6 → (fun k => if k < wn i then cw i k - 96 else 0) k < 32 := fun k _ => by
    show (if k < wn i then cw i k - 96 else 0) < 32
    split
    · rename_i h; have := w6 k h; omega
    · decide
  have hg : ∀ k, k < 6 → ltN bt a L k < 32 := fun k _ => by
    unfold ltN
    split
    · rename_i h; have := of_decide_eq_true (hl k h); omega
    · decide
  have b1 := hor_lt hf
  have b2 := hor_lt hg
  rw [nI_eq (by omega) (by omega)]
  constructor
  · intro h
    have e := hor_inj hf hg h
    have key : ∀ k, k < 6 → (if k < wn i then cw i k - 96 else 0) = (if k < L then bt (a + k) - 96 else 0) := fun k hk => e k hk
    have pos1 : ∀ k, k < wn i → 1 ≤ cw i k - 96 := fun k hk => by have := w6 k hk; omega
    have pos2 : ∀ k, k < L → 1 ≤ bt (a + k) - 96 := fun k hk => by have := of_decide_eq_true (hl k hk); omega
    have hLw : L = wn i := by
      by_cases c : L < wn i
      · have := key L (by omega)
        rw [if_pos c, if_neg (by omega)] at this
        have := pos1 L c; omega
      · by_cases c2 : wn i < L
        · have := key (wn i) (by omega)
          rw [if_neg (by omega), if_pos c2] at this
          have := pos2 _ c2; omega
        · omega
    refine ⟨hLw, fun k hk => ?_⟩
    have q := key k (by omega)
    rw [if_pos hk, if_pos (by omega)] at q
    have := w6 k hk
    have := of_decide_eq_true (hl k (by omega))
    omega
  · rintro ⟨h1, h2⟩
    congr 1
    funext k
    show (if k < wn i then cw i k - 96 else 0) = (if k < L then bt (a + k) - 96 else 0)
    rw [h1]
    by_cases c : k < wn i
    · rw [if_pos c, if_pos c, h2 k c]
    · rw [if_neg c, if_neg c]
/-! a name, as the reference packs it -/
def hp6 (f : Nat → Nat) : Nat → Nat
  | 0 => 0
  | k + 1 => hp6 f k * 32 + f k
theorem hp6_lt {f : Nat → Nat} (hf : ∀ k, k < 6 → f k < 32) : ∀ k, k ≤ 6 → hp6 f k < 32 ^ k
  | 0, _ => by show (0 : Nat) < 1; decide
  | k + 1, h => by
    have := hp6_lt hf k (by omega)
    have := hf k (by omega)
    unfold hp6; rw [Nat.pow_succ]; omega
theorem hp6_hor (f : Nat → Nat) : hp6 f 6 = hor f := by simp [hp6, hor]
theorem M_name_go {a L : Nat} {bt : Nat → Nat} {S0 : MS} (h7 : a + L ≤ 700) (hl : ∀ k, k < L → ltB (bt (a + k)) = true) : ∀ (d k fuel : Nat) (S : MS), 6 = k + d → d < fuel → MR S → gI S 0 31 = nI a → gI S 0 30 = nI (a + L) → (∀ j, j < L → gI S 1 (a + j) = nI (bt (a + j))) → gI S 0 33 = nI (hp6 (ltN bt a L) k) → Fr NM S0 S →
    ∃ S1, fX11_name_7 fuel 0 (nI k) S = some S1 ∧ gI S1 0 33 = nI (hor (ltN bt a L)) ∧ gI S1 0 30 = gI S 0 30 ∧ gI S1 0 31 = gI S 0 31 ∧ gI S1 0 32 = gI S 0 32 ∧ Fr NM S0 S1 := by
  have hg : ∀ k, k < 6 → ltN bt a L k < 32 := fun k _ => by
    unfold ltN
    split
    · rename_i h; have := of_decide_eq_true (hl k h); omega
    · decide
  intro d
  induction d with
  | zero =>
    intro k fuel S e1 e2 hM h31 h30 hb hv hf
    obtain ⟨f, rfl⟩ : ∃ f, fuel = f + 1 := ⟨fuel - 1, by omega⟩
    have hk : k = 6 := by omega
    subst hk
    refine ⟨S, ?_, ?_, rfl, rfl, rfl, hf⟩
    · unfold fX11_name_7; rw [if_pos (by decide)]
    · rw [hv, hp6_hor]
  | succ d ih =>
    intro k fuel S e1 e2 hM h31 h30 hb hv hf
    obtain ⟨f, rfl⟩ : ∃ f, fuel = f + 1 := ⟨fuel - 1, by omega⟩
    have hlt := hp6_lt hg k (by omega)
    have hpk : 32 ^ k ≤ 32 ^ 5 := Nat.pow_le_pow_right (by decide) (by omega)
    have h32 := hg k (by omega)
    have step : ∀ l : Nat, l = ltN bt a L k → ∃ S1, fX11_name_53 (fX11_name_7 f) 0 (nI k) 0 (nI (hp6 (ltN bt a L) k) <<< ((5 : Int32) &&& 31)) (nI l) S = some S1 ∧ gI S1 0 33 = nI (hor (ltN bt a L)) ∧ gI S1 0 30 = nI (a + L) ∧ gI S1 0 31 = nI a ∧ gI S1 0 32 = gI S 0 32 ∧ Fr NM S0 S1 := by
      intro l hll
      unfold fX11_name_53
      rw [nI_sh5 (by omega), nI_or, nI_1, Nat.mul_comm, show 32 * hp6 (ltN bt a L) k = 2 ^ 5 * hp6 (ltN bt a L) k from rfl, or_add (by omega)]
      have f1 : Fr NM S (pI S 0 33 (nI (2 ^ 5 * hp6 (ltN bt a L) k + l))) := Fr.rf.pI ⟨rfl, by decide, by decide⟩
      obtain ⟨S1, q1, q2, q3, q4, q5, q6⟩ := ih (k + 1) f (pI S 0 33 (nI (2 ^ 5 * hp6 (ltN bt a L) k + l))) (by omega) (by omega) (hM.of rfl) (by rw [gI_nek (by decide)]; exact h31) (by rw [gI_nek (by decide)]; exact h30) (fun j hj => by rw [gI_neo (by decide)]; exact hb j hj) (by rw [gI_same]; congr 1; show _ = hp6 (ltN bt a L) k * 32 + ltN bt a L k; rw [hll]; omega) (hf.tr f1)
      exact ⟨S1, q1, q2, (q3.trans (gI_nek (by decide))).trans h30, (q4.trans (gI_nek (by decide))).trans h31, q5.trans (gI_nek (by decide)), q6⟩
    unfold fX11_name_7
    rw [if_neg (show ¬ (6 : Int32) ≤ nI k from nle (n := 6) (by decide) (by omega)), h31, h30, nI_add, hv]
    by_cases c : k < L
    · have hc := of_decide_eq_true (hl k c)
      rw [if_neg (nle (by omega) (by omega)), mr_1 hM, lm_1, bnd_nI (show a + k < 700 by omega) (by decide), if_pos rfl, nI_clamp (by omega), hb k c]
      have el : nI (bt (a + k)) - 97 + 1 = nI (bt (a + k) - 96) := by
        rw [show (97 : Int32) = nI 97 from rfl, nI_subN (by omega), nI_1]; congr 1; omega
      rw [el]
      exact step _ (by unfold ltN; rw [if_pos c])
    · rw [if_pos ((nI_leI (by omega) (by omega)).mpr (by omega))]
      exact step 0 (by unfold ltN; rw [if_neg c])
