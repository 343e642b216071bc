/-! ===== what is seen; the tape ===== -/
theorem T84 {t n : Nat} {S : MS} (h : RX t S) (hk : KX S) (e : gI S 84 3 = nI n) (hn : n ≤ 24) : TBL S 84 24 5 n := ⟨rx_84_0 h, kx_at hk (by decide), kx_at hk (by decide), e, hn, lx_85, by decide, by decide⟩
theorem X_put {S : MS} {o m w n c : Nat} {v : Int32} (h : TBL S o m w n) (hn : n < m) (hc : c < w) : fX7_put o (nI c) v S = some (pI S (o + 1) (n * w + c) v) := by
  obtain ⟨h0, h1, h2, h3, h4, h5, h6, h7⟩ := h
  have e1 : ¬ nI m ≤ nI n := nle (by omega) hn
  have e2 : ¬ nI c < 0 := nI_pos (by omega)
  have e3 : ¬ nI w ≤ nI c := nle (by omega) hc
  have hlt := tbl_idx (i := n) (n := m) (m := m) (w := w) (c := c) hn (Nat.le_refl _) hc
  have hm : m * w ≤ 24 * 5 := Nat.mul_le_mul h6 h7
  unfold fX7_put
  rw [h1, h3, if_neg e1, if_neg e2, h2, if_neg e3, idx_nI, h0, h5, bnd_nI hlt (by omega), if_pos rfl, nI_clamp (by omega)]
theorem TBL.pI {S : MS} {o m w n a b : Nat} {v : Int32} (h : TBL S o m w n) (ho : o ≠ a) : TBL (pI S a b v) o m w n := by
  obtain ⟨h0, h1, h2, h3, h4⟩ := h
  exact ⟨h0, by rw [gI_neo ho]; exact h1, by rw [gI_neo ho]; exact h2, by rw [gI_neo ho]; exact h3, h4⟩
def PS (o j : Nat) : Prop := (o = 84 ∧ j = 3) ∨ o = 85
theorem X_add {t n : Nat} {S : MS} {a b c d : Int32} {e : Bool} (h : RX t S) (hk : KX S) (es : gI S 84 3 = nI n) (hn : n ≤ 24) :
    (n = 24 → fX6_add 83 a b c d (b2i e) S = some (-1, S)) ∧ (n < 24 → ∃ S1, fX6_add 83 a b c d (b2i e) S = some (nI n, S1) ∧ Fr PS S S1 ∧ gI S1 84 3 = nI (n + 1) ∧ (∀ j, j < n * 5 → gI S1 85 j = gI S 85 j) ∧ gI S1 85 (n * 5 + 0) = a ∧ gI S1 85 (n * 5 + 1) = b ∧ gI S1 85 (n * 5 + 2) = c ∧ gI S1 85 (n * 5 + 3) = d ∧ gI S1 85 (n * 5 + 4) = b2i e) := by
  have hT := T84 h hk es hn
  have e24 : gI S 84 1 = 24 := hT.2.1
  constructor
  · rintro rfl
    unfold fX6_add fX7_isFull
    rw [rx_83_0 h, es, e24, if_neg (by decide), Option.bind_some, if_neg one0]
  · intro hlt
    have p0 : fX7_put 84 (0 : Int32) a S = _ := X_put (c := 0) (v := a) hT hlt (by decide)
    have hT1 := hT.pI (a := 85) (b := n * 5 + 0) (v := a) (by decide)
    have p1 : fX7_put 84 (1 : Int32) b (pI S 85 (n * 5 + 0) a) = _ := X_put (c := 1) (v := b) hT1 hlt (by decide)
    have hT2 := hT1.pI (a := 85) (b := n * 5 + 1) (v := b) (by decide)
    have p2 : fX7_put 84 (2 : Int32) c (pI (pI S 85 (n * 5 + 0) a) 85 (n * 5 + 1) b) = _ := X_put (c := 2) (v := c) hT2 hlt (by decide)
    have hT3 := hT2.pI (a := 85) (b := n * 5 + 2) (v := c) (by decide)
    have p3 : fX7_put 84 (3 : Int32) d (pI (pI (pI S 85 (n * 5 + 0) a) 85 (n * 5 + 1) b) 85 (n * 5 + 2) c) = _ := X_put (c := 3) (v := d) hT3 hlt (by decide)
    have hT4 := hT3.pI (a := 85) (b := n * 5 + 3) (v := d) (by decide)
    have p4 : ∀ v, fX7_put 84 (4 : Int32) v (pI (pI (pI (pI S 85 (n * 5 + 0) a) 85 (n * 5 + 1) b) 85 (n * 5 + 2) c) 85 (n * 5 + 3) d) = _ := fun v => X_put (c := 4) (v := v) hT4 hlt (by decide)
    have n84 : (84 : Nat) ≠ 85 := by decide
    have hl : nI n < 24 := nI_lt (b := 24) hlt (by decide)
    have hl' : ¬ (24 : Int32) ≤ nI n := nle (n := 24) (by decide) hlt
    have g64 : ∀ v, fX6_add_64 83 84 (4 : Int32) v (pI (pI (pI (pI S 85 (n * 5 + 0) a) 85 (n * 5 + 1) b) 85 (n * 5 + 2) c) 85 (n * 5 + 3) d) = some (nI n, pI (pI (pI (pI (pI (pI S 85 (n * 5 + 0) a) 85 (n * 5 + 1) b) 85 (n * 5 + 2) c) 85 (n * 5 + 3) d) 85 (n * 5 + 4) v) 84 3 (nI (n + 1))) := fun v => by
      unfold fX6_add_64 fX7_close fX7_size
      rw [p4]
      simp only [Option.bind_some, gR_pI, rx_83_0 h, gI_neo n84, e24, es, hl', if_false, nI_1, gI_same, nI_pred]
    have hev : ∀ v, v = b2i e → ∃ S1, fX6_add_64 83 84 (4 : Int32) v (pI (pI (pI (pI S 85 (n * 5 + 0) a) 85 (n * 5 + 1) b) 85 (n * 5 + 2) c) 85 (n * 5 + 3) d) = some (nI n, S1) ∧ Fr PS S S1 ∧ gI S1 84 3 = nI (n + 1) ∧ (∀ j, j < n * 5 → gI S1 85 j = gI S 85 j) ∧ gI S1 85 (n * 5 + 0) = a ∧ gI S1 85 (n * 5 + 1) = b ∧ gI S1 85 (n * 5 + 2) = c ∧ gI S1 85 (n * 5 + 3) = d ∧ gI S1 85 (n * 5 + 4) = b2i e := by
      intro v hv
      have p : ∀ j, PS 85 j := fun j => Or.inr rfl
      refine ⟨_, g64 v, (((((Fr.rf.pI (p _)).pI (p _)).pI (p _)).pI (p _)).pI (p _)).pI (Or.inl ⟨rfl, rfl⟩), gI_same, fun j hj => ?_, ?_, ?_, ?_, ?_, ?_⟩
      · rw [gI_neo (by decide), gI_nek (by omega), gI_nek (by omega), gI_nek (by omega), gI_nek (by omega), gI_nek (by omega)]
      · simp [gI_pI]
      · simp [gI_pI]
      · simp [gI_pI]
      · simp [gI_pI]
      · simp [gI_pI, hv]
    unfold fX6_add fX7_isFull
    rw [rx_83_0 h, es, e24, if_pos hl, Option.bind_some, if_pos rfl, p0, Option.bind_some, gR_pI, rx_83_0 h, p1, Option.bind_some, gR_pI, gR_pI, rx_83_0 h, p2, Option.bind_some, gR_pI, gR_pI, gR_pI, rx_83_0 h, p3, Option.bind_some, gR_pI, gR_pI, gR_pI, gR_pI, rx_83_0 h]
    cases e
    · rw [if_pos b2i_f]; exact hev 0 rfl
    · rw [if_neg b2i_t]; exact hev 1 rfl
def gX (o j : Nat) : Prop := (o = 84 ∧ j = 3) ∨ o = 85 ∨ (o = 83 ∧ j = 2)
def gM (o j : Nat) : Prop := (o = 0 ∧ (j = 66 ∨ j = 67)) ∨ (42 ≤ o ∧ o ≤ 46)
theorem Iv.seen {t : Nat} {T : TT} {SX SM SX1 SM1 : MS} (hv : Iv t T SX SM) (fx : Fr gX SX SX1) (fm : Fr gM SM SM1) (hs : SE SX1 SM1) : Iv t T SX1 SM1 := by
  obtain ⟨h1, h2, h3, h4, h5, h6, h7⟩ := hv
  have e1 : wX SX1 87 = wX SX 87 := Fr.wld fx (fun o j a b hp => by unfold gX at hp; omega)
  have e2 : wM SM1 0 = wM SM 0 := wM_same (fun k a b => fm.2 _ _ (fun hc => by unfold gM at hc; omega)) (fun o j a b c d => fm.2 _ _ (fun hc => by unfold gM at hc; omega))
  refine ⟨h1.fr (fx.mo (fun o j hp => by unfold gX at hp; unfold cX; omega)) (fm.mo (fun o j hp => by unfold gM at hp; unfold cM; omega)), ?_, h3.fr (fx.mo (fun o j hp => by unfold gX at hp; unfold iX; omega)) (fm.mo (fun o j hp => by unfold gM at hp; unfold iM; omega)), h4.fr (fx.mo (fun o j hp => by unfold gX at hp; unfold lX; omega)) (fm.mo (fun o j hp => by unfold gM at hp; unfold lM; omega)) (fun f _ => by rw [e2]), hs, h6.fr (fx.mo (fun o j hp => by unfold gX at hp; unfold tpX; omega)) (fm.mo (fun o j hp => by unfold gM at hp; unfold tpM; omega)), h7.fr (fx.mo (fun o j hp => by unfold gX at hp; unfold ftX; omega)) (fm.mo (fun o j hp => by unfold gM at hp; unfold ftM; omega))⟩
  unfold NW; rw [e1, e2]; exact h2
theorem eq24 {n : Nat} (hn : n ≤ 24) : (nI n = 24) ↔ n = 24 := by rw [show (24 : Int32) = nI 24 from rfl, nI_eq (by omega) (by decide)]
theorem nar_b {b : Bool} : vp_nar .boolean (b2i b) = b2i b := by cases b <;> decide
theorem i01 {z : Int32} (h1 : ¬ z < 0) (h2 : ¬ 1 < z) : z = 0 ∨ z = 1 := by grind
theorem i140 {z : Int32} (h1 : ¬ z < 1) (h2 : ¬ 40 < z) : ∃ n : Nat, 1 ≤ n ∧ n ≤ 40 ∧ z = nI n := by
  have h0 : ¬ z < 0 := by grind
  obtain ⟨n, hn, rfl⟩ := nI_of h0
  refine ⟨n, ?_, ?_, rfl⟩
  · rw [show (1 : Int32) = nI 1 from rfl, nI_ltI hn (by decide)] at h1; omega
  · rw [show (40 : Int32) = nI 40 from rfl, nI_ltI (by decide) hn] at h2; omega
theorem sim_23 : Sim_23 Inv := by
  intro SX SM z0 z1 z2 z3 z4 ⟨t, T, h⟩
  have hv := h.th
  have hiv : Inv SX (th0 SM) := ⟨t, T, hv⟩
  obtain ⟨hX, hM, ex, em, hW, h57, hE⟩ := hv.1
  obtain ⟨n, hn, s1, s2, s3, s4, s5⟩ := hv.2.2.2.2.1
  obtain ⟨b, hb⟩ := bz_b z4
  rw [hb]
  unfold fX10_see fX11_see
  by_cases c1 : z0 < 1
  · rw [if_pos c1, if_pos c1]; exact ⟨_, _, rfl, rfl, rfl, hiv⟩
  rw [if_neg c1, if_neg c1]
  by_cases c2 : 40 < z0
  · rw [if_pos c2, if_pos c2]; exact ⟨_, _, rfl, rfl, rfl, hiv⟩
  rw [if_neg c2, if_neg c2]
  by_cases c3 : z1 < 0
  · rw [if_pos c3, if_pos c3]; exact ⟨_, _, rfl, rfl, rfl, hiv⟩
  rw [if_neg c3, if_neg c3]
  by_cases c4 : 1 < z1
  · rw [if_pos c4, if_pos c4]; exact ⟨_, _, rfl, rfl, rfl, hiv⟩
  rw [if_neg c4, if_neg c4, rx_told hX.1, X_isCell, M_isCell hM.1, ex, em]
  cases hc : cellB T z2 z3 with
  | false => exact ⟨_, _, rfl, rfl, rfl, hiv⟩
  | true =>
    obtain ⟨r, c, hr, hcc, rfl, rfl⟩ := cellB_idx hW.2.2.2.1 hc
    obtain ⟨hh, hh1, hh2, rfl⟩ := i140 c1 c2
    obtain ⟨x1, x2⟩ := X_add (a := nI hh) (b := z1) (c := nI r) (d := nI c) (e := b) hX.1 hX.2.1 s1 hn
    rw [Option.bind_some, if_neg b2i_t, Option.bind_some, if_neg b2i_t, rx_0_8 hX.1]
    by_cases hf : n = 24
    · rw [x1 hf, s2, if_pos ((eq24 hn).mpr hf)]; exact ⟨_, _, rfl, rfl, rfl, hiv⟩
    · obtain ⟨S1, a1, a2, a3, a4, a50, a51, a52, a53, a54⟩ := x2 (by omega)
      have bn : bnd (nI n) 24 = true := bnd_nI (by omega) (by decide)
      have cn : (nI n).toNatClampNeg = n := nI_clamp (by omega)
      have k0 : ∀ o, o ≠ 0 → (0 : Nat) ≠ o := fun o ho e => ho e.symm
      have n42 : (0 : Nat) ≠ 42 := by decide
      have n43 : (0 : Nat) ≠ 43 := by decide
      have n44 : (0 : Nat) ≠ 44 := by decide
      have n45 : (0 : Nat) ≠ 45 := by decide
      have n46 : (0 : Nat) ≠ 46 := by decide
      unfold fX11_see_66 fX11_see_93 fX11_see_113
      simp only [a1, Option.bind_some, s2, (eq24 hn), hf, if_false, gR_pI, mr_68 hM.1, mr_69 hM.1, mr_70 hM.1, mr_71 hM.1, mr_72 hM.1, lm_42, lm_43, lm_44, lm_45, lm_46, gI_neo n42, gI_neo n43, gI_neo n44, gI_neo n45, gI_neo n46, bn, cn, if_true, idx8', nar_b, nI_1, gI_same, nI_pred]
      refine ⟨_, _, rfl, rfl, rfl, t, T, hv.seen (a2.mo (fun o j hp => by unfold PS at hp; unfold gX; omega)) ?_ ?_⟩
      · exact (((((Fr.rf.pI (Or.inr ⟨by decide, by decide⟩)).pI (Or.inr ⟨by decide, by decide⟩)).pI (Or.inr ⟨by decide, by decide⟩)).pI (Or.inr ⟨by decide, by decide⟩)).pI (Or.inr ⟨by decide, by decide⟩)).pI (Or.inl ⟨rfl, Or.inl rfl⟩)
      · refine ⟨n + 1, by omega, a3, gI_same, ?_, ?_, fun k hk => ?_⟩
        · rw [a2.2 _ _ (fun hp => by unfold PS at hp; omega), s3]; simp [gI_pI]
        · rw [gI_nek (by decide), gI_neo n46, gI_neo n45, gI_neo n44, gI_neo n43, gI_neo n42]
          rcases s4 with s4 | ⟨m, hm, s4⟩
          · exact Or.inl s4
          · exact Or.inr ⟨m, by omega, s4⟩
        · by_cases hkn : k = n
          · subst hkn
            left
            refine ⟨by simp [gI_pI], by rw [a51]; simp [gI_pI], ?_, by rw [a54]; simp [gI_pI], ?_, ⟨hh, hh1, hh2, a50, by simp [gI_pI]⟩, ⟨r, c, hr, hcc, a52, a53, by simp [gI_pI]⟩⟩
            · rcases i01 c3 c4 with rfl | rfl <;> simp [gI_pI]
            · cases b <;> simp [gI_pI, b2i]
          · refine (s5 k (by omega)).fr (fun j hj => a4 j (by omega)) (fun o h1 h2 => ?_)
            rw [gI_neo (by omega)]
            rcases (by omega : o = 42 ∨ o = 43 ∨ o = 44 ∨ o = 45 ∨ o = 46) with rfl | rfl | rfl | rfl | rfl <;> simp [gI_pI, hkn]
theorem sim_24 : Sim_24 Inv := by
  intro SX SM z0 ⟨t, T, h⟩
  have hv := h.th
  have hiv : Inv SX (th0 SM) := ⟨t, T, hv⟩
  obtain ⟨hX, hM, ex, em, hW, h57, hE⟩ := hv.1
  obtain ⟨n, hn, s1, s2, s3, s4, s5⟩ := hv.2.2.2.2.1
  unfold fX10_out fX11_out fX6_strike
  rw [rx_0_8 hX.1, rx_83_0 hX.1, X_has (T84 hX.1 hX.2.1 s1 hn), s2]
  by_cases c1 : z0 < 0
  · rw [if_pos c1, decide_eq_false (fun hh => absurd c1 (Int32.not_lt.mpr hh.1))]; exact ⟨_, _, rfl, rfl, rfl, hiv⟩
  rw [if_neg c1]
  by_cases c2 : nI n ≤ z0
  · rw [if_pos c2, decide_eq_false (fun hh => absurd hh.2 (Int32.not_lt.mpr c2))]; exact ⟨_, _, rfl, rfl, rfl, hiv⟩
  rw [if_neg c2, decide_eq_true ⟨Int32.not_lt.mp c1, Int32.not_le.mp c2⟩, Option.bind_some, if_neg b2i_t]
  obtain ⟨j, hj, rfl⟩ := nI_of c1
  have hjn : j < n := by rw [nI_leI (by omega) hj] at c2; omega
  obtain ⟨x1, x2⟩ := X_add (a := 0) (b := 2) (c := nI j) (d := 0) (e := true) hX.1 hX.2.1 s1 hn
  have x1' : n = 24 → fX6_add 83 0 2 (nI j) 0 (1 : Int32) SX = some (-1, SX) := x1
  by_cases hf : n = 24
  · rw [x1' hf, if_pos ((eq24 hn).mpr hf)]; exact ⟨_, _, rfl, rfl, rfl, hiv⟩
  · obtain ⟨S1, a1, a2, a3, a4, a50, a51, a52, a53, a54⟩ := x2 (by omega)
    have a1' : fX6_add 83 0 2 (nI j) 0 (1 : Int32) SX = some (nI n, S1) := a1
    have bn : bnd (nI n) 24 = true := bnd_nI (by omega) (by decide)
    have cn : (nI n).toNatClampNeg = n := nI_clamp (by omega)
    have n46 : (0 : Nat) ≠ 46 := by decide
    unfold fX11_out_48
    simp only [a1', Option.bind_some, (eq24 hn), hf, if_false, mr_72 hM.1, lm_46, gI_neo n46, s2, bn, cn, if_true, nI_1, gI_same, nI_pred]
    refine ⟨_, _, rfl, rfl, rfl, t, T, hv.seen (a2.mo (fun o j hp => by unfold PS at hp; unfold gX; omega)) ?_ ?_⟩
    · exact (Fr.rf.pI (Or.inr ⟨by decide, by decide⟩)).pI (Or.inl ⟨rfl, Or.inl rfl⟩)
    · refine ⟨n + 1, by omega, a3, gI_same, ?_, ?_, fun k hk => ?_⟩
      · rw [a2.2 _ _ (fun hp => by unfold PS at hp; omega), s3]; simp [gI_pI]
      · rw [gI_nek (by decide), gI_neo n46]
        rcases s4 with s4 | ⟨m, hm, s4⟩
        · exact Or.inl s4
        · exact Or.inr ⟨m, by omega, s4⟩
      · by_cases hkn : k = n
        · subst hkn
          right
          exact ⟨j, hjn, by simp [gI_pI], a51, a52⟩
        · refine (s5 k (by omega)).fr (fun j hj => a4 j (by omega)) (fun o h1 h2 => ?_)
          rw [gI_neo (by omega)]
          by_cases ho : o = 46
          · rw [gI_nek hkn]
          · rw [gI_neo ho]
theorem sim_25 : Sim_25 Inv := by
  intro SX SM z0 ⟨t, T, h⟩
  have hv := h.th
  have hiv : Inv SX (th0 SM) := ⟨t, T, hv⟩
  obtain ⟨hX, hM, ex, em, hW, h57, hE⟩ := hv.1
  obtain ⟨n, hn, s1, s2, s3, s4, s5⟩ := hv.2.2.2.2.1
  unfold fX10_known fX11_known fX6_size fX7_size
  rw [rx_0_8 hX.1, rx_83_0 hX.1, s1, s2, Option.bind_some, Option.bind_some]
  by_cases c1 : z0 < -1
  · rw [if_pos c1, if_pos c1]; exact ⟨_, _, rfl, rfl, rfl, hiv⟩
  rw [if_neg c1, if_neg c1]
  by_cases c2 : z0 ≤ nI n
  · rw [if_pos c2, if_pos c2]
    refine ⟨_, _, rfl, rfl, rfl, t, T, hv.seen (Fr.rf.pI (Or.inr (Or.inr ⟨rfl, rfl⟩))) (Fr.rf.pI (Or.inl ⟨rfl, Or.inr rfl⟩)) ⟨n, hn, ?_, ?_, ?_, ?_, fun k hk => (s5 k hk).fr (fun j _ => gI_neo (by decide)) (fun o h1 h2 => gI_neo (by omega))⟩⟩
    · rw [gI_neo (by decide)]; exact s1
    · rw [gI_nek (by decide)]; exact s2
    · rw [gI_same, gI_same]
    · rw [gI_same]
      by_cases c3 : z0 < 0
      · left; grind
      · right
        obtain ⟨m, hm, rfl⟩ := nI_of c3
        exact ⟨m, by rw [nI_leI hm (by omega)] at c2; exact c2, rfl⟩
  · rw [if_neg c2, if_neg c2]; exact ⟨_, _, rfl, rfl, rfl, hiv⟩
