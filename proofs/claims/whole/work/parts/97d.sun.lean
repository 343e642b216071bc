/-! ===== the line of a sun, whole ===== -/
theorem num_back {t n : Nat} {bt : Nat → Nat} {lo hi v : Int32} {SX SM A : MS} (h : JJ t n bt SX SM) (hn : fX5_number 48 lo hi SX = some (v, A)) (hz : gI A 48 16 = 0) : gI SX 48 16 = 0 := by
  rcases h with ⟨a, e, h⟩ | ⟨f, w, h, _⟩
  · exact h.2.2.1
  · obtain ⟨S1, a1, a2, _⟩ := X_num_f (lo := lo) (hi := hi) h
    rw [a1] at hn
    have : S1 = A := congrArg Prod.snd (Option.some.inj hn)
    rw [← this] at hz
    exact absurd (a2.2.1.symm.trans hz) a2.2.2.1
def LFS (o j : Nat) : Prop := LFM 0 o j ∨ (o = 0 ∧ j = 26)
theorem L_sun {t n u k a e : Nat} {bt : Nat → Nat} {SX SM : MS} (hu : isT u) (h : JO t n bt a e SX SM) (hT : TBL SX (u + 3) 6 3 k) (hD : D2 u 0 SX SM k) (hk : k < 6) (hS : SU SM k) :
    ∃ SX1 SM1, sunX (u + 3) SX = some SX1 ∧ fX11_sunLine 0 SM = some SM1 ∧ JJ t n bt SX1 SM1 ∧ Fr (LFX u 0) SX SX1 ∧ Fr LFS SM SM1 ∧ (gI SX1 48 16 = 0 → D2 u 0 SX1 SM1 (k + 1) ∧ SU SM1 (k + 1)) ∧ gI SX1 (u + 3) 3 = nI (k + 1) := by
  obtain ⟨x, y, A, B, q1, q2, jj, fx, fm, x23, y23, hok⟩ := sun_a hu h hT hD hk hS
  have hu' := hu
  unfold isT at hu'
  have hb : bnd (nI (6 + k)) 12 = true := bnd_nI (by omega) (by decide)
  have hcl : (nI (6 + k)).toNatClampNeg = 6 + k := nI_clamp (by omega)
  generalize hMk : (gI SM 0 26 ||| ((1 : Int32) <<< (nI y &&& 31))) = mk at q2
  have hTA : TBL A (u + 3) 6 3 k := hT.fr fx (fun j hp => by unfold NY at hp; omega)
  have p0 : fX7_put (u + 3) (0 : Int32) (nI x) A = some (pI A (u + 4) (k * 3 + 0) (nI x)) := X_put (c := 0) (v := nI x) hTA hk (by decide)
  have s1 : ST t n bt u 0 k 1 SX (pI SM 0 26 mk) (pI A (u + 4) (k * 3 + 0) (nI x)) (pI (pI B 4 (6 + k) (nI y)) 0 26 mk) := by
    refine ⟨((jj.pX hu (Or.inr (Or.inr (Or.inr (Or.inr (Or.inl ⟨by omega, by omega, fun hh => by omega⟩))))) (fun e => by omega)).pM (by decide) (fun e => by omega)).pM (by decide) (fun _ => by decide), hTA.pI (by omega), ?_, ⟨fm.1, fun o j hp => ?_⟩, ?_⟩
    · exact (fx.mo (fun _ _ hp => Or.inl hp)).pI (Or.inr ⟨rfl, by show k * 3 ≤ k * 3 + 0; omega⟩)
    · by_cases c : o = 0 ∧ j = 26
      · obtain ⟨rfl, rfl⟩ := c
        rw [gI_same, gI_same]
      · rw [gI_pI, if_neg c, gI_pI, if_neg (fun hh => hp (Or.inr ⟨by rw [hh.1]; decide, by rw [hh.1]; decide, hh.2⟩)), gI_pI, if_neg c, fm.2 _ _ (fun hh => hp (Or.inl hh))]
    · intro hz
      rw [gI_neo (by omega)] at hz
      obtain ⟨exy, _⟩ := hok hz
      subst exy
      intro j hj
      have j0 : j = 0 := by omega
      subst j0
      refine ⟨x, gI_same, ?_, Nat.zero_le _, x23⟩
      show gI (pI (pI B 4 (6 + k) (nI x)) 0 26 mk) 4 (6 + k) = nI x
      rw [gI_neo (by decide), gI_same]
  have hD' : D2 u 0 SX (pI SM 0 26 mk) k := by
    refine ⟨hD.1, hD.2.1, ?_, fun i hi j hj => ?_⟩
    · rw [gI_neo (by decide)]; exact hD.2.2.1
    · rw [gI_neo (by have : mB 0 = 4 := rfl; omega)]; exact hD.2.2.2 i hi j hj
  have m1 := s1.1.mlM.1
  rw [q1, q2]
  unfold fX5_readSun_43 fX11_sunLine_76
  rw [p0, Option.bind_some, hcl]
  obtain ⟨x2, A2, B2, p2, g2, w2, f2, s2⟩ := st_num (q := 0) (c := 1) (l := 0) (hh := 3) hu (by decide) s1 hk (by decide) (by decide) (by decide) (by decide) (by decide)
  have g2' : fX7_put (u + 3) (1 : Int32) (nI x2) A2 = some (pI A2 (u + 4) (k * 3 + 1) (nI x2)) := g2
  have s2' : ST t n bt u 0 k 2 SX (pI SM 0 26 mk) (pI A2 (u + 4) (k * 3 + 1) (nI x2)) (pI B2 5 (6 + k) (nI x2)) := s2
  have p2' : fX5_number 48 (0 : Int32) (3 : Int32) (pI A (u + 4) (k * 3 + 0) (nI x)) = some (nI x2, A2) := p2
  have w2' : fX11_numeral 0 (0 : Int32) (3 : Int32) (pI (pI B 4 (6 + k) (nI y)) 0 26 mk) = some (nI x2, B2) := w2
  rw [p2', Option.bind_some, w2', Option.bind_some]
  dsimp only
  rw [g2', Option.bind_some, mr_6 m1, lm_5, hb, if_pos rfl]
  have m2 := s2'.1.mlM.1
  obtain ⟨x3, A3, B3, p3, g3, w3, f3, s3⟩ := st_num (q := 0) (c := 2) (l := 0) (hh := 7) hu (by decide) s2' hk (by decide) (by decide) (by decide) (by decide) (by decide)
  have g3' : fX7_put (u + 3) (2 : Int32) (nI x3) A3 = some (pI A3 (u + 4) (k * 3 + 2) (nI x3)) := g3
  have s3' : ST t n bt u 0 k 3 SX (pI SM 0 26 mk) (pI A3 (u + 4) (k * 3 + 2) (nI x3)) (pI B3 6 (6 + k) (nI x3)) := s3
  have p3' : fX5_number 48 (0 : Int32) (7 : Int32) (pI A2 (u + 4) (k * 3 + 1) (nI x2)) = some (nI x3, A3) := p3
  have w3' : fX11_numeral 0 (0 : Int32) (7 : Int32) (pI B2 5 (6 + k) (nI x2)) = some (nI x3, B3) := w3
  rw [p3', Option.bind_some, w3', Option.bind_some]
  dsimp only
  rw [g3', Option.bind_some, mr_7 m2, lm_6, hb, if_pos rfl]
  have m3 := s3'.1.mlM.1
  obtain ⟨c1, c2, _, _⟩ := st_close hu (by decide) s3' hD' hk
  have c1' : fX7_close (u + 3) (pI A3 (u + 4) (k * 3 + 2) (nI x3)) = some (pI (pI A3 (u + 4) (k * 3 + 2) (nI x3)) (u + 3) 3 (nI (k + 1))) := c1
  have eg : fX11_fresher 0 (5 : Int32) (pI B3 6 (6 + k) (nI x3)) = some (nI k) := (M_fre m3 (j := 5) (by decide)).trans (congrArg some c2)
  have eh : fX11_reads 0 (5 : Int32) (nI k + 1) (pI B3 6 (6 + k) (nI x3)) = some (pI (pI B3 6 (6 + k) (nI x3)) 2 18 (nI k + 1)) := M_rea m3 (j := 5) (by decide)
  rw [c1', Option.bind_some, eg, Option.bind_some, eh, Option.bind_some, nI_1]
  obtain ⟨l1, l2, l3, l4, l5⟩ := st_fin hu (by decide) s3' hD' hk
  refine ⟨_, _, rfl, rfl, l1, l2, ?_, fun hz => ⟨l4 hz, ?_⟩, l5⟩
  · have f0 : Fr LFS SM (pI SM 0 26 mk) := Fr.rf.pI (Or.inr ⟨rfl, rfl⟩)
    exact f0.tr (l3.mo (fun _ _ hp => Or.inl hp))
  · have z3 : gI A3 48 16 = 0 := by rw [gI_neo (by omega), gI_neo (by omega)] at hz; exact hz
    have z2 := num_back s2'.1 p3' z3
    rw [gI_neo (by omega)] at z2
    have z1 := num_back s1.1 p2' z2
    rw [gI_neo (by omega)] at z1
    obtain ⟨exy, no⟩ := hok z1
    subst exy
    have cm : gI (pI (pI B3 6 (6 + k) (nI x3)) 2 18 (nI (k + 1))) 0 26 = mk := by
      rw [gI_neo (by decide), s3'.2.2.2.1.2 0 26 (fun hp => by unfold TFM NN at hp; have : mB 0 = 4 := rfl; omega), gI_same]
    have ck : gI (pI (pI B3 6 (6 + k) (nI x3)) 2 18 (nI (k + 1))) 4 (6 + k) = nI x := by
      rw [gI_neo (by decide), gI_neo (by decide), f3.2 _ _ (fun hp => by unfold NN at hp; omega), gI_neo (by decide), f2.2 _ _ (fun hp => by unfold NN at hp; omega), gI_neo (by decide), gI_same]
    have ci : ∀ i, i < k → gI (pI (pI B3 6 (6 + k) (nI x3)) 2 18 (nI (k + 1))) 4 (6 + i) = gI SM 4 (6 + i) := fun i hi => by
      rw [gI_neo (by decide), s3'.2.2.2.1.2 4 (6 + i) (fun hp => by unfold TFM NN at hp; have : mxq 0 = 6 := rfl; omega), gI_neo (by decide)]
    refine ⟨fun hh h24 => ?_, fun i j hi hj hij => ?_⟩
    · rw [cm, ← hMk, bit_or (by omega) (by omega), hS.1 hh h24]
      constructor
      · rintro (⟨i, hi, e'⟩ | e')
        · exact ⟨i, by omega, by rw [ci i hi]; exact e'⟩
        · exact ⟨k, by omega, by rw [ck, e']⟩
      · rintro ⟨i, hi, e'⟩
        by_cases c : i = k
        · subst c
          rw [ck] at e'
          exact Or.inr ((nI_eq (by omega) (by omega)).mp e').symm
        · exact Or.inl ⟨i, by omega, by rw [ci i (by omega)] at e'; exact e'⟩
    · by_cases c : i = k
      · by_cases d : j = k
        · omega
        · subst c
          rw [ck, ci j (by omega)] at hij
          exact absurd hij.symm (no j (by omega))
      · by_cases d : j = k
        · subst d
          rw [ck, ci i (by omega)] at hij
          exact absurd hij (no i (by omega))
        · rw [ci i (by omega), ci j (by omega)] at hij
          exact hS.2 i j (by omega) (by omega) hij
