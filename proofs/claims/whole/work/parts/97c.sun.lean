/-! ===== bits of what was told; the line of a sun ===== -/
theorem gb1 {z : Int32} : (z &&& 1 = 1) ↔ z.toBitVec.getLsbD 0 = true := by
  have e : (z &&& 1).toBitVec = z.toBitVec &&& 1#32 := rfl
  have e2 : z.toBitVec &&& 1#32 = if z.toBitVec.getLsbD 0 then 1#32 else 0#32 := BitVec.and_one_eq_setWidth_ofBool_getLsbD.trans (by cases z.toBitVec.getLsbD 0 <;> rfl)
  rw [← Int32.toBitVec_inj, e, e2]
  cases z.toBitVec.getLsbD 0 <;> decide
set_option maxRecDepth 100000 in
theorem smd_dec : ∀ h, h < 32 → (BitVec.smod ((nI h &&& 31).toBitVec) 32#32).toNat = h := by decide +kernel
theorem bitx {x : Int32} {h : Nat} (hh : h < 32) : ((x >>> (nI h &&& 31)) &&& 1 = 1) ↔ x.toBitVec.getLsbD h = true := by
  rw [gb1]
  show (x.toBitVec.sshiftRight' (BitVec.smod ((nI h &&& 31).toBitVec) 32#32)).getLsbD 0 = true ↔ _
  rw [BitVec.sshiftRight_eq', smd_dec h hh, BitVec.getLsbD_sshiftRight]
  rw [Nat.add_zero, if_pos hh]
  simp
set_option maxRecDepth 100000 in
theorem one_dec : ∀ y, y < 32 → ∀ h, h < 32 → (((1 : Int32) <<< (nI y &&& 31)).toBitVec.getLsbD h = true ↔ h = y) := by decide +kernel
theorem bit_or {x : Int32} {h y : Nat} (hh : h < 32) (hy : y < 32) : (((x ||| ((1 : Int32) <<< (nI y &&& 31))) >>> (nI h &&& 31)) &&& 1 = 1) ↔ (((x >>> (nI h &&& 31)) &&& 1 = 1) ∨ h = y) := by
  rw [bitx hh, bitx hh, ← one_dec y hy h hh]
  show (x.toBitVec ||| ((1 : Int32) <<< (nI y &&& 31)).toBitVec).getLsbD h = true ↔ _
  rw [BitVec.getLsbD_or, Bool.or_eq_true]
/-- a number that lies within its bounds does not fail -/
theorem num_in {t n a e y m : Nat} {bt : Nat → Nat} {SX SM A : MS} {v : Int32} (h : JO t n bt a e SX SM) (h2 : gI SM 0 32 = 2) (hy : gI SM 0 33 = nI y) (hm : y ≤ m) (m9 : m ≤ 99999) (hn : fX5_number 48 0 (nI m) SX = some (v, A)) : gI A 48 16 = 0 := by
  have tk := h.2.2.2.2.2.2.2.2.2.2
  have c := tk.num.mpr h2
  obtain ⟨x, z, ex, ez, r⟩ : ∃ x z, gI SX 48 6 = nI x ∧ gI SM 0 33 = nI z ∧ nrR x z ∧ z < 2 ^ 31 := by
    rcases tk with ⟨q, _⟩ | ⟨q, _⟩ | ⟨q, _⟩ | ⟨_, _, x, y, q1, q2, q3⟩ | ⟨q, _⟩ | ⟨q, _⟩
    · rw [c] at q; exact absurd q (by decide)
    · rw [c] at q; exact absurd q (by decide)
    · rw [c] at q; exact absurd q (by decide)
    · exact ⟨x, y, q1, q2, q3, by rcases q3 with q | q <;> omega⟩
    · rw [h2] at q; exact absurd q (by decide)
    · rw [h2] at q; exact absurd q (by decide)
  have ezy : z = y := (nI_eq r.2 (show y < 2 ^ 31 by omega)).mp (ez.symm.trans hy)
  have exy : x = y := by rcases r.1 with q | q <;> omega
  subst exy
  obtain ⟨SX1, SM1, a1, e1, u1, u2, u3, _⟩ := j_next h
  unfold fX5_number at hn
  rw [if_pos c, ex, if_neg (nI_pos (by omega)), if_pos ((nI_leI (by omega) (by omega)).mpr hm), u1, Option.bind_some] at hn
  have : A = SX1 := by
    have := Option.some.inj hn
    exact (congrArg Prod.snd this).symm
  rw [this]
  exact u3.2.2.1
def SU (SM : MS) (k : Nat) : Prop := (∀ h, h < 24 → (((gI SM 0 26) >>> (nI h &&& 31)) &&& 1 = 1 ↔ ∃ i, i < k ∧ gI SM 4 (6 + i) = nI h)) ∧ (∀ i j, i < k → j < k → gI SM 4 (6 + i) = gI SM 4 (6 + j) → i = j)
theorem sun46 {k y : Nat} {S B : MS} (hM : MR S) (hk : k < 6) (f : Fr NN S B) (hn : fX11_numeral 0 0 23 S = some (nI y, B)) : fX11_sunLine_46 0 (nI (6 + k)) S = fX11_sunLine_76 0 (nI (6 + k)) (pI (pI B 4 (6 + k) (nI y)) 0 26 (gI B 0 26 ||| ((1 : Int32) <<< (nI y &&& 31)))) := by
  have hB : MR B := hM.of f.1
  have hB1 : MR (pI B 4 (6 + k) (nI y)) := hB.of rfl
  unfold fX11_sunLine_46
  rw [hn, Option.bind_some]
  dsimp only
  rw [mr_5 hM, lm_4, bnd_nI (show 6 + k < 12 by omega) (by decide), if_pos rfl, nI_clamp (by omega), mr_5 hB1, lm_4, bnd_nI (show 6 + k < 12 by omega) (by decide), if_pos rfl, gI_same, gI_neo (by decide)]
theorem sun_a {t n u k a e : Nat} {bt : Nat → Nat} {SX SM : MS} (hu : isT u) (h : JO t n bt a e SX SM) (hT : TBL SX (u + 3) 6 3 k) (hD : D2 u 0 SX SM k) (hk : k < 6) (hS : SU SM k) :
    ∃ x y A B, sunX (u + 3) SX = fX5_readSun_43 48 (u + 3) (nI x) A ∧ fX11_sunLine 0 SM = fX11_sunLine_76 0 (nI (6 + k)) (pI (pI B 4 (6 + k) (nI y)) 0 26 (gI SM 0 26 ||| ((1 : Int32) <<< (nI y &&& 31)))) ∧ JJ t n bt A B ∧ Fr NY SX A ∧ Fr NN SM B ∧ x ≤ 23 ∧ y ≤ 23 ∧ (gI A 48 16 = 0 → x = y ∧ ∀ i, i < k → gI SM 4 (6 + i) ≠ nI x) := by
  have hM := h.2.1.1
  have hu' := hu
  unfold isT at hu'
  have ef : fX11_fresher 0 (5 : Int32) SM = some (nI k) := (M_fre hM (j := 5) (by decide)).trans (congrArg some hD.2.2.1)
  have ei : (6 : Int32) + nI k = nI (6 + k) := nI_add 6 k
  obtain ⟨x, A1, B1, p1, w1, _, x23, jj, fx, fm, a8⟩ := j_num (l := 0) (m := 23) (Or.inl ⟨a, e, h⟩) (by decide) (by decide)
  have p1' : fX5_number 48 (0 : Int32) (23 : Int32) SX = some (nI x, A1) := p1
  have w1' : fX11_numeral 0 (0 : Int32) (23 : Int32) SM = some (nI x, B1) := w1
  have hT1 : TBL A1 (u + 3) 6 3 k := hT.fr fx (fun j hp => by unfold NY at hp; omega)
  have f1 : fX7_find (u + 3) (0 : Int32) (nI x) A1 = some _ := X_find (c := 0) (v := nI x) hT1 (by decide)
  have row : ∀ i, i < k → gI A1 (u + 3 + 1) (i * 3 + 0) = gI SM 4 (6 + i) := fun i hi => by
    obtain ⟨z, z1, z2, _⟩ := hD.2.2.2 i hi 0 (by decide)
    rw [fx.2 _ _ (fun hp => by unfold NY at hp; omega)]
    exact (show gI SX (u + 3 + 1) (i * 3 + 0) = nI z from z1).trans (show gI SM 4 (6 + i) = nI z from z2).symm
  have fn : fnd (fun k_1 => gI A1 (u + 3 + 1) (k_1 * 3 + 0)) (nI x) k 0 = -1 ↔ ∀ i, i < k → gI SM 4 (6 + i) ≠ nI x := by
    rw [fnd_none k 0 (by omega)]
    exact ⟨fun g i hi => by have := g i (by omega) (by omega); rw [row i hi] at this; exact this, fun g i _ hi => by have := g i (by omega); rw [← row i (by omega)] at this; exact this⟩
  have go : ∀ S : MS, fX11_sunLine_46 0 ((6 : Int32) + nI k) S = fX11_sunLine_46 0 (nI (6 + k)) S := fun S => by rw [ei]
  unfold sunX fX11_sunLine
  rw [ef, Option.bind_some, p1', Option.bind_some]
  dsimp only
  rw [f1, Option.bind_some, ei]
  by_cases hz : gI A1 48 16 = 0
  · obtain ⟨_, t8, s2, v2⟩ := a8 (jj.ok hz)
    rw [if_pos s2, v2, if_neg (show ¬ (24 : Int32) ≤ nI x from nle (n := 24) (by decide) (by omega))]
    by_cases b : ((gI SM 0 26) >>> (nI x &&& 31)) &&& 1 = 1
    · obtain ⟨i, hi, ei'⟩ := (hS.1 x (by omega)).mp b
      rw [if_pos b, if_neg (fun g => fn.mp g i hi ei')]
      obtain ⟨a1, e1, g⟩ := jj.ok hz
      obtain ⟨A2, c1, c2, c3⟩ := X_fail (f := 3) (w := gI A1 48 8) g.1 hz (by decide)
      obtain ⟨B2, d1, d2, d3, d4, d5, _⟩ := M_wrong (f := 3) h.2.1 h.2.2.2.1
      have z34 : gI B2 0 34 ≠ 0 := by rw [d3]; decide
      have w2 : fX11_numeral 0 (0 : Int32) (23 : Int32) B2 = some (nI 0, B2) := M_num_f z34
      rw [c1, Option.bind_some, d1, Option.bind_some, sun46 d2.1 hk Fr.rf w2, d5.2 0 26 (fun hp => by unfold NN at hp; omega)]
      refine ⟨x, 0, A2, B2, rfl, rfl, Or.inr ⟨3, _, c2, d2, d3, ?_⟩, fx.tr c3, d5, x23, by decide, fun g0 => absurd (c2.2.1.symm.trans g0) (by decide)⟩
      rw [d4, t8, h.2.2.2.2.2.1, h.2.2.2.2.1]
    · have no : ∀ i, i < k → gI SM 4 (6 + i) ≠ nI x := fun i hi e' => b ((hS.1 x (by omega)).mpr ⟨i, hi, e'⟩)
      rw [if_neg b, if_pos (fn.mpr no), sun46 hM hk fm w1', fm.2 0 26 (fun hp => by unfold NN at hp; omega)]
      exact ⟨x, x, A1, B1, rfl, rfl, jj, fx, fm, x23, x23, fun _ => ⟨rfl, no⟩⟩
  · have hm : (if gI SM 0 32 = 2 then if (24 : Int32) ≤ gI SM 0 33 then fX11_sunLine_46 0 (nI (6 + k)) SM else if gI SM 0 26 >>> (gI SM 0 33 &&& 31) &&& 1 = 1 then (fX11_wrong 0 3 SM).bind fun q24 => fX11_sunLine_46 0 (nI (6 + k)) q24 else fX11_sunLine_46 0 (nI (6 + k)) SM else fX11_sunLine_46 0 (nI (6 + k)) SM) = fX11_sunLine_46 0 (nI (6 + k)) SM := by
      by_cases c2 : gI SM 0 32 = 2
      · rw [if_pos c2]
        by_cases c3 : (24 : Int32) ≤ gI SM 0 33
        · rw [if_pos c3]
        · refine absurd ?_ hz
          obtain ⟨y, hy⟩ : ∃ y, gI SM 0 33 = nI y ∧ y < 2 ^ 31 := by
            have tk := h.2.2.2.2.2.2.2.2.2.2
            rcases tk with ⟨_, q⟩ | ⟨_, q⟩ | ⟨_, q, _⟩ | ⟨_, _, x, y, q1, q2, q3⟩ | ⟨q, _⟩ | ⟨q, _⟩
            · rw [c2] at q; exact absurd q (by decide)
            · rw [c2] at q; exact absurd q (by decide)
            · rw [c2] at q; exact absurd q (by decide)
            · exact ⟨y, q2, by rcases q3 with q | q <;> omega⟩
            · rw [c2] at q; exact absurd q (by decide)
            · rw [c2] at q; exact absurd q (by decide)
          rw [hy.1] at c3
          have y24 : ¬ 24 ≤ y := fun g => c3 ((nI_leI (show (24 : Nat) < 2 ^ 31 by decide) hy.2).mpr g)
          exact num_in (m := 23) h c2 hy.1 (by omega) (by decide) p1
      · rw [if_neg c2]
    rw [hm, sun46 hM hk fm w1', fm.2 0 26 (fun hp => by unfold NN at hp; omega)]
    rcases jj with ⟨a1, e1, g⟩ | ⟨f, w, g1, g2⟩
    · exact absurd g.2.2.1 hz
    · by_cases d : fnd (fun k_1 => gI A1 (u + 3 + 1) (k_1 * 3 + 0)) (nI x) k 0 = -1
      · rw [if_pos d]
        exact ⟨x, x, A1, B1, rfl, rfl, Or.inr ⟨f, w, g1, g2⟩, fx, fm, x23, x23, fun g0 => absurd g0 hz⟩
      · obtain ⟨A2, c1, c2, c3⟩ := X_fail_f (g := 3) (v := gI A1 48 8) g1
        rw [if_neg d, c1, Option.bind_some]
        exact ⟨x, x, A2, B1, rfl, rfl, Or.inr ⟨f, w, c2, g2⟩, fx.tr c3, fm, x23, x23, fun g0 => absurd (c2.2.1.symm.trans g0) c2.2.2.1⟩
