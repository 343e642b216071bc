/-! ===== the tape ===== -/
theorem nar_byte (x : Int32) : vp_nar .byte x = x.toInt8.toInt32 := rfl
theorem and255 (y : Int32) : (y &&& 255).toInt = y.toInt % 256 := by
  have e : (y &&& 255).toBitVec = y.toBitVec &&& 255#32 := rfl
  have h1 : (y &&& 255).toInt = ((y &&& 255).toBitVec).toInt := rfl
  have h2 : y.toInt = y.toBitVec.toInt := rfl
  have h3 : (y.toBitVec &&& 255#32).toNat = y.toBitVec.toNat % 256 := by
    rw [BitVec.toNat_and]; exact Nat.and_two_pow_sub_one_eq_mod y.toBitVec.toNat 8
  rw [h1, h2, e, BitVec.toInt_eq_toNat_cond, BitVec.toInt_eq_toNat_cond, h3]
  have := y.toBitVec.isLt
  split <;> split <;> omega
theorem by_ok (y : Int32) : BY (vp_nar .byte y.toInt8.toInt32) (y &&& 255) := by
  have hr := i_rng y
  refine ⟨(y.toInt % 256).toNat, by omega, ?_, ?_⟩
  · apply Int32.toInt_inj.mp
    rw [and255, nI_toInt (by omega)]; omega
  · rw [nar_byte]
    have e : (y.toInt8.toInt32.toInt8.toInt32).toInt = y.toInt.bmod 256 := by
      rw [Int8.toInt_toInt32, Int32.toInt_toInt8, Int8.toInt_toInt32, Int32.toInt_toInt8]
      exact Int.bmod_bmod
    apply Int32.toInt_inj.mp
    rw [e, Int.bmod_def]
    split
    · rw [if_pos (by omega), nI_toInt (by omega)]; omega
    · rw [if_neg (by omega), i_sub, nI_toInt (by omega)]
      · show _ = _ - (256 : Int); omega
      · rw [nI_toInt (by omega)]; show _ ≤ _ - (256 : Int); omega
      · rw [nI_toInt (by omega)]; show _ - (256 : Int) < _; omega
def PT (o j : Nat) : Prop := (o = 0 ∧ j = 12) ∨ o = 1
theorem X_pb_go {t n : Nat} {x : Int32} {S0 : MS} (hn : n + 4 ≤ 700) : ∀ (d i fuel : Nat) (S : MS), 4 = i + d → d < fuel → RX t S → gI S 0 12 = nI (n + i) → Fr PT S0 S → (∀ k, k < n → gI S 1 k = gI S0 1 k) → (∀ j, j < i → gI S 1 (n + j) = vp_nar .byte ((x >>> ((24 - 8 * nI j) &&& 31)).toInt8.toInt32)) →
    ∃ S1, fX10_putBytes_3 fuel 0 x (24 - 8 * nI i) S = some S1 ∧ gI S1 0 12 = nI (n + 4) ∧ Fr PT S0 S1 ∧ (∀ k, k < n → gI S1 1 k = gI S0 1 k) ∧ (∀ j, j < 4 → gI S1 1 (n + j) = vp_nar .byte ((x >>> ((24 - 8 * nI j) &&& 31)).toInt8.toInt32)) := by
  intro d
  induction d with
  | zero =>
    intro i fuel S e1 e2 h e12 hf h1 h2
    obtain ⟨f, rfl⟩ : ∃ f, fuel = f + 1 := ⟨fuel - 1, by omega⟩
    have hi : i = 4 := by omega
    subst hi
    refine ⟨S, ?_, e12, hf, h1, h2⟩
    unfold fX10_putBytes_3
    rw [if_pos (by decide)]
  | succ d ih =>
    intro i fuel S e1 e2 h e12 hf h1 h2
    obtain ⟨f, rfl⟩ : ∃ f, fuel = f + 1 := ⟨fuel - 1, by omega⟩
    have c1 : ¬ ((24 : Int32) - 8 * nI i < 0) := by
      rcases (by omega : i = 0 ∨ i = 1 ∨ i = 2 ∨ i = 3) with rfl | rfl | rfl | rfl <;> decide
    have c2 : ¬ (700 : Int32) ≤ nI (n + i) := nle (n := 700) (by decide) (by omega)
    have c3 : (24 : Int32) - 8 * nI i + -8 = 24 - 8 * nI (i + 1) := by
      rw [← nI_1]; grind
    have n01 : (0 : Nat) ≠ 1 := by decide
    unfold fX10_putBytes_3 fX10_putBytes_40
    rw [if_neg c1, e12, if_neg c2, rx_0_0 h, lx_1, bnd_nI (show n + i < 700 by omega) (by decide), if_pos rfl, nI_clamp (by omega), gI_neo n01, e12, nI_1, c3]
    refine ih (i + 1) f _ (by omega) (by omega) (h.of rfl) gI_same ((hf.pI (Or.inr rfl)).pI (Or.inl ⟨rfl, rfl⟩)) (fun k hk => ?_) (fun j hj => ?_)
    · rw [gI_neo (by decide), gI_nek (by omega)]; exact h1 k hk
    · rw [gI_neo (by decide)]
      by_cases hji : j = i
      · subst hji; rw [gI_same]
      · rw [gI_nek (by omega)]; exact h2 j (by omega)
theorem X_pb {t n : Nat} {x : Int32} {S : MS} (h : RX t S) (hn : n + 4 ≤ 700) (e : gI S 0 12 = nI n) :
    ∃ S1, fX10_putBytes 0 x S = some S1 ∧ gI S1 0 12 = nI (n + 4) ∧ Fr PT S S1 ∧ (∀ k, k < n → gI S1 1 k = gI S 1 k) ∧ (∀ j, j < 4 → gI S1 1 (n + j) = vp_nar .byte ((x >>> ((24 - 8 * nI j) &&& 31)).toInt8.toInt32)) :=
  X_pb_go hn 4 0 1000 S rfl (by decide) h e Fr.rf (fun _ _ => rfl) (fun j hj => by omega)
def fdV (a b c d e : Int32) (k : Nat) : Int32 := if k < 4 then a else if k < 8 then b else if k < 12 then c else if k < 16 then d else e
def PTM (o j : Nat) : Prop := (o = 0 ∧ j = 2) ∨ o = 1
theorem nI_mod4 {k : Nat} (hk : k < 2 ^ 31) : nI k - nI k / 4 * 4 = nI (k % 4) := by
  have e : nI k / 4 = nI (k / 4) := nI_div hk (by decide)
  rw [e, show (4 : Int32) = nI 4 from rfl, nI_mul, nI_subN (Nat.div_mul_le_self k 4)]
  congr 1; omega
theorem M_fd_go {n : Nat} {a b c d e : Int32} {S0 : MS} (hn : n + 20 ≤ 700) : ∀ (dd k fuel : Nat) (S : MS), 20 = k + dd → dd < fuel → MR S → gI S 0 2 = nI n → Fr PTM S0 S → (∀ j, j < n → gI S 1 j = gI S0 1 j) → (∀ j, j < k → gI S 1 (n + j) = (fdV a b c d e j >>> ((24 - 8 * nI (j % 4)) &&& 31)) &&& 255) →
    ∃ S1, fX11_feed_20 fuel 0 a b c d e (nI k) S = some (nI (n + 20), S1) ∧ gI S1 0 2 = nI (n + 20) ∧ Fr PTM S0 S1 ∧ (∀ j, j < n → gI S1 1 j = gI S0 1 j) ∧ (∀ j, j < 20 → gI S1 1 (n + j) = (fdV a b c d e j >>> ((24 - 8 * nI (j % 4)) &&& 31)) &&& 255) := by
  intro dd
  induction dd with
  | zero =>
    intro k fuel S e1 e2 h e12 hf h1 h2
    obtain ⟨f, rfl⟩ : ∃ f, fuel = f + 1 := ⟨fuel - 1, by omega⟩
    have hi : k = 20 := by omega
    subst hi
    refine ⟨pI S 0 2 (nI (n + 20)), ?_, gI_same, hf.pI (Or.inl ⟨rfl, rfl⟩), fun j hj => ?_, fun j hj => ?_⟩
    · unfold fX11_feed_20
      rw [if_pos (by decide), gI_same, e12, show nI n + 20 = nI (n + 20) from nI_add n 20]
    · rw [gI_neo (by decide)]; exact h1 j hj
    · rw [gI_neo (by decide)]; exact h2 j hj
  | succ dd ih =>
    intro k fuel S e1 e2 h e12 hf h1 h2
    obtain ⟨f, rfl⟩ : ∃ f, fuel = f + 1 := ⟨fuel - 1, by omega⟩
    have c20 : ¬ (20 : Int32) ≤ nI k := nle (n := 20) (by decide) (by omega)
    have step : ∀ v, v = fdV a b c d e k → ∃ S1, fX11_feed_73 (fX11_feed_20 f) 0 a b c d e (nI k) v S = some (nI (n + 20), S1) ∧ gI S1 0 2 = nI (n + 20) ∧ Fr PTM S0 S1 ∧ (∀ j, j < n → gI S1 1 j = gI S0 1 j) ∧ (∀ j, j < 20 → gI S1 1 (n + j) = (fdV a b c d e j >>> ((24 - 8 * nI (j % 4)) &&& 31)) &&& 255) := by
      intro v hv
      unfold fX11_feed_73 fX11_feed_104
      rw [e12, nI_add, mr_1 h, lm_1, bnd_nI (show n + k < 700 by omega) (by decide), if_pos rfl, nI_clamp (by omega), nI_mod4 (by omega), nI_1]
      refine ih (k + 1) f _ (by omega) (by omega) (h.of rfl) ?_ (hf.pI (Or.inr rfl)) (fun j hj => ?_) (fun j hj => ?_)
      · rw [gI_neo (by decide)]; exact e12
      · rw [gI_nek (by omega)]; exact h1 j hj
      · by_cases hjk : j = k
        · subst hjk; rw [gI_same, hv]
        · rw [gI_nek (by omega)]; exact h2 j (by omega)
    have le : ∀ m : Nat, m < 2 ^ 31 → (nI m ≤ nI k ↔ ¬ k < m) := fun m hm => by rw [nI_leI hm (by omega)]; omega
    have l4 : (4 : Int32) ≤ nI k ↔ ¬ k < 4 := le 4 (by decide)
    have l8 : (8 : Int32) ≤ nI k ↔ ¬ k < 8 := le 8 (by decide)
    have l12 : (12 : Int32) ≤ nI k ↔ ¬ k < 12 := le 12 (by decide)
    have l16 : (16 : Int32) ≤ nI k ↔ ¬ k < 16 := le 16 (by decide)
    unfold fX11_feed_20
    simp only [c20, if_false, l4, l8, l12, l16]
    by_cases k4 : k < 4
    · simp only [k4, not_true, if_false]; exact step a (by unfold fdV; rw [if_pos k4])
    · simp only [k4, not_false_eq_true, if_true]
      by_cases k8 : k < 8
      · simp only [k8, not_true, if_false]; exact step b (by unfold fdV; rw [if_neg k4, if_pos k8])
      · simp only [k8, not_false_eq_true, if_true]
        by_cases k12 : k < 12
        · simp only [k12, not_true, if_false]; exact step c (by unfold fdV; rw [if_neg k4, if_neg k8, if_pos k12])
        · simp only [k12, not_false_eq_true, if_true]
          by_cases k16 : k < 16
          · simp only [k16, not_true, if_false]; exact step d (by unfold fdV; rw [if_neg k4, if_neg k8, if_neg k12, if_pos k16])
          · simp only [k16, not_false_eq_true, if_true]; exact step e (by unfold fdV; rw [if_neg k4, if_neg k8, if_neg k12, if_neg k16])
theorem Iv.tape {t : Nat} {T : TT} {SX SM SX1 SM1 : MS} (hv : Iv t T SX SM) (fx : Fr PT SX SX1) (fm : Fr PTM SM SM1) (hs : TP SX1 SM1) : Iv t T SX1 SM1 := by
  obtain ⟨h1, h2, h3, h4, h5, h6, h7⟩ := hv
  have e1 : wX SX1 87 = wX SX 87 := Fr.wld fx (fun o j a b hp => by unfold PT at hp; omega)
  have e2 : wM SM1 0 = wM SM 0 := wM_fr fm (fun o j a b hc => by unfold PTM at hc; omega)
  refine ⟨h1.fr (fx.mo (fun o j hp => by unfold PT at hp; unfold cX; omega)) (fm.mo (fun o j hp => by unfold PTM at hp; unfold cM; omega)), ?_, h3.fr (fx.mo (fun o j hp => by unfold PT at hp; unfold iX; omega)) (fm.mo (fun o j hp => by unfold PTM at hp; unfold iM; omega)), h4.fr (fx.mo (fun o j hp => by unfold PT at hp; unfold lX; omega)) (fm.mo (fun o j hp => by unfold PTM at hp; unfold lM; omega)) (fun f _ => by rw [e2]), h5.fr (fx.mo (fun o j hp => by unfold PT at hp; unfold sX; omega)) (fm.mo (fun o j hp => by unfold PTM at hp; unfold sM; omega)), hs, h7.fr (fx.mo (fun o j hp => by unfold PT at hp; unfold ftX; omega)) (fm.mo (fun o j hp => by unfold PTM at hp; unfold ftM; omega))⟩
  unfold NW; rw [e1, e2]; exact h2
theorem sim_0 : Sim_0 Inv := by
  intro SX SM z0 z1 z2 z3 z4 ⟨t, T, h⟩
  have hv := h.th
  have hiv : Inv SX (th0 SM) := ⟨t, T, hv⟩
  obtain ⟨hX, hM, ex, em, hW, h57, hE⟩ := hv.1
  obtain ⟨n, hn, t1, t2, t3⟩ := hv.2.2.2.2.2.1
  have c1 : ((nI n) + 20 ≤ (700 : Int32)) ↔ n ≤ 680 := by
    rw [show nI n + 20 = nI (n + 20) from nI_add n 20, show (700 : Int32) = nI 700 from rfl, nI_leI (by omega) (by decide)]; omega
  have c2 : (nI n ≤ (680 : Int32)) ↔ n ≤ 680 := by
    rw [show (680 : Int32) = nI 680 from rfl, nI_leI (by omega) (by decide)]
  unfold fX10_feed fX11_feed
  rw [t1, t2]
  simp only [c1, c2]
  by_cases c : n ≤ 680
  · rw [if_pos c, if_pos c]
    obtain ⟨S1, a1, a2, a3, a4, a5⟩ := X_pb (x := z0) hX.1 (by omega) t1
    obtain ⟨S2, b1, b2, b3, b4, b5⟩ := X_pb (x := z1) (hX.1.of a3.1) (by omega) a2
    have r2 := (hX.1.of a3.1).of b3.1
    obtain ⟨S3, c1, c2, c3, c4, c5⟩ := X_pb (x := z2) r2 (by omega) b2
    have r3 := r2.of c3.1
    obtain ⟨S4, d1, d2, d3, d4, d5⟩ := X_pb (x := z3) r3 (by omega) c2
    have r4 := r3.of d3.1
    obtain ⟨S5, e1, e2, e3, e4, e5⟩ := X_pb (x := z4) r4 (by omega) d2
    obtain ⟨M1, m1, m2, m3, m4, m5⟩ := M_fd_go (a := z0) (b := z1) (c := z2) (d := z3) (e := z4) (S0 := th0 SM) (n := n) (by omega) 20 0 1000 (th0 SM) rfl (by decide) hM.1 t2 Fr.rf (fun _ _ => rfl) (fun j hj => by omega)
    have m1' : fX11_feed_20 1000 0 z0 z1 z2 z3 z4 (0 : Int32) (th0 SM) = _ := m1
    rw [a1, Option.bind_some, b1, Option.bind_some, c1, Option.bind_some, d1, Option.bind_some, e1, Option.bind_some, e2, m1']
    refine ⟨_, _, rfl, rfl, rfl, t, T, hv.tape ((((a3.tr b3).tr c3).tr d3).tr e3) m3 ⟨n + 20, by omega, e2, m2, fun k hk => ?_⟩⟩
    by_cases hkn : k < n
    · have := m4 k hkn
      show BY (gI S5 1 k) (gI M1 1 k)
      rw [this, e4 k (by omega), d4 k (by omega), c4 k (by omega), b4 k (by omega), a4 k (by omega)]; exact t3 k hkn
    · have hm := m5 (k - n) (by omega)
      rw [show n + (k - n) = k from by omega] at hm
      show BY (gI S5 1 k) (gI M1 1 k)
      rw [hm]
      have key : ∀ (S : MS) (x : Int32) (m j : Nat), k = m + j → gI S 1 (m + j) = vp_nar .byte ((x >>> ((24 - 8 * nI j) &&& 31)).toInt8.toInt32) → (k - n) % 4 = j → fdV z0 z1 z2 z3 z4 (k - n) = x → gI S5 1 k = gI S 1 k → BY (gI S5 1 k) ((fdV z0 z1 z2 z3 z4 (k - n) >>> ((24 - 8 * nI ((k - n) % 4)) &&& 31)) &&& 255) := by
        intro S x m j h1 h2 h3 h4 h5
        rw [h5, h1, h2, ← h1, h3, h4]; exact by_ok _
      rcases (by omega : k < n + 4 ∨ (n + 4 ≤ k ∧ k < n + 8) ∨ (n + 8 ≤ k ∧ k < n + 12) ∨ (n + 12 ≤ k ∧ k < n + 16) ∨ (n + 16 ≤ k ∧ k < n + 20)) with q | q | q | q | q
      · exact key S1 z0 n (k - n) (by omega) (a5 _ (by omega)) (by omega) (by unfold fdV; rw [if_pos (by omega)]) (by rw [e4 k (by omega), d4 k (by omega), c4 k (by omega), b4 k (by omega)])
      · exact key S2 z1 (n + 4) (k - n - 4) (by omega) (b5 _ (by omega)) (by omega) (by unfold fdV; rw [if_neg (by omega), if_pos (by omega)]) (by rw [e4 k (by omega), d4 k (by omega), c4 k (by omega)])
      · exact key S3 z2 (n + 4 + 4) (k - n - 8) (by omega) (c5 _ (by omega)) (by omega) (by unfold fdV; rw [if_neg (by omega), if_neg (by omega), if_pos (by omega)]) (by rw [e4 k (by omega), d4 k (by omega)])
      · exact key S4 z3 (n + 4 + 4 + 4) (k - n - 12) (by omega) (d5 _ (by omega)) (by omega) (by unfold fdV; rw [if_neg (by omega), if_neg (by omega), if_neg (by omega), if_pos (by omega)]) (by rw [e4 k (by omega)])
      · exact key S5 z4 (n + 4 + 4 + 4 + 4) (k - n - 16) (by omega) (e5 _ (by omega)) (by omega) (by unfold fdV; rw [if_neg (by omega), if_neg (by omega), if_neg (by omega), if_neg (by omega)]) rfl
  · rw [if_neg c, if_neg c]; exact ⟨_, _, rfl, rfl, rfl, hiv⟩
