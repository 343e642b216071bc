/-! ===== four hours laid out: the class ===== -/
def BX (s : Int32 × Nat) (S : MS) : Prop := gI S 54 4 = s.1 ∧ (s.1 = -1 ∨ ∀ j, j < 4 → gI S 55 j = nI (dg j s.2))
def PLX (o j : Nat) : Prop := 53 ≤ o ∧ o < 78
theorem PLX_Q : ∀ o j, PLX o j → QX o j := fun o j h => by unfold PLX at h; unfold QX; omega
theorem XO.gen {P : Nat → Nat → Prop} {t : Nat} {S S1 : MS} (h : XO t S) (f : Fr P S S1) (hp : ∀ o j, P o j → cX o j) : XO t S1 ∧ tX S1 t = tX S t := by
  obtain ⟨h1, h2, h3, h4, h5⟩ := h
  have fx := f.mo hp
  have ht := isT_r h1.1
  have hq : ∀ o j, t ≤ o → o < t + 23 → ¬ cX o j := fun o j a b hc => by unfold cX at hc; omega
  refine ⟨⟨h1.of fx.1, h2.fr fx (by unfold cX; decide), ?_, ?_, ?_⟩, Fr.told fx hq⟩
  · rw [fx.2 _ _ (hq _ _ (by omega) (by omega))]; exact h3
  · rw [fx.2 _ _ (hq _ _ (by omega) (by omega))]; exact h4
  · rw [fx.2 _ _ (hq _ _ (by omega) (by omega))]; exact h5
theorem PLX_c : ∀ o j, PLX o j → cX o j := fun o j h => QX_c o j (PLX_Q o j h)
theorem isW5 {k : Nat} (h : k ≤ 4) : isW (58 + 4 * k) := by
  rcases (by omega : k = 0 ∨ k = 1 ∨ k = 2 ∨ k = 3 ∨ k = 4) with rfl | rfl | rfl | rfl | rfl <;> (unfold isW; decide)
theorem g57 {t k : Nat} {S : MS} (h : RX t S) (hk : k ≤ 4) : gR S 57 k = 58 + 4 * k := by
  rcases (by omega : k = 0 ∨ k = 1 ∨ k = 2 ∨ k = 3 ∨ k = 4) with rfl | rfl | rfl | rfl | rfl
  · exact rx_57_0 h
  · exact rx_57_1 h
  · exact rx_57_2 h
  · exact rx_57_3 h
  · exact rx_57_4 h
/-- what the class keeps while it lays out -/
def XPi (t : Nat) (T : TT) (W : Nat → Int32) (S0 : MS) (k c : Nat) (S : MS) : Prop := XO t S ∧ tX S t = T ∧ gI S 54 5 = undS T W ∧ (∀ j, j ≤ k → wX S (58 + 4 * j) = pre T W c j) ∧ (∀ j, j < k → gI S 56 j = nI (dg j c)) ∧ Fr PLX S0 S
theorem X_best_go {t c : Nat} {T : TT} {W : Nat → Int32} {S0 : MS} : ∀ (d i fuel : Nat) (S : MS), 4 = i + d → d < fuel → XPi t T W S0 4 c S → (∀ j, j < i → gI S 55 j = nI (dg j c)) →
    ∃ S1, fX4_weigh_42 fuel 54 (nI i) S = some S1 ∧ XPi t T W S0 4 c S1 ∧ gI S1 54 4 = gI S 54 4 ∧ (∀ j, j < 4 → gI S1 55 j = nI (dg j c)) := by
  intro d
  induction d with
  | zero =>
    intro i fuel S e1 e2 h h55
    obtain ⟨f, rfl⟩ : ∃ f, fuel = f + 1 := ⟨fuel - 1, by omega⟩
    refine ⟨S, ?_, h, rfl, fun j hj => h55 j (by omega)⟩
    unfold fX4_weigh_42
    rw [show i = 4 from by omega, if_pos (by decide)]
  | succ d ih =>
    intro i fuel S e1 e2 h h55
    obtain ⟨f, rfl⟩ : ∃ f, fuel = f + 1 := ⟨fuel - 1, by omega⟩
    obtain ⟨h1, h2, h3, h4, h5, h6⟩ := h
    have f1 : Fr PLX S (pI S 55 i (nI (dg i c))) := Fr.rf.pI ⟨by decide, by decide⟩
    obtain ⟨g1, g2⟩ := h1.gen f1 PLX_c
    unfold fX4_weigh_42
    rw [if_neg (nle4 (by omega)), rx_54_0 h1.1, rx_54_1 h1.1, lx_55, lx_56, bnd_nI (show i < 4 by omega) (by decide), if_pos rfl, if_pos rfl, nI_clamp (by omega), h5 i (by omega), nI_1]
    obtain ⟨S1, q1, q2, q3, q4⟩ := ih (i + 1) f _ (by omega) (by omega) ⟨g1, g2.trans h2, by rw [gI_neo (by decide)]; exact h3, fun j hj => by rw [wX_ne (by omega)]; exact h4 j hj, fun j hj => by rw [gI_neo (by decide)]; exact h5 j hj, h6.tr f1⟩ (fun j hj => by
      by_cases hji : j = i
      · subst hji; exact gI_same
      · rw [gI_nek hji]; exact h55 j (by omega))
    exact ⟨S1, q1, q2, q3.trans (gI_neo (by decide)), q4⟩
theorem X_weigh {t c a : Nat} {T : TT} {W : Nat → Int32} {S0 S : MS} {s : Int32 × Nat} (hW : WT T) (hk : WOK T W) (ea : W 3 = nI a) (ha : a ≤ 9900) (h : XPi t T W S0 4 c S) (hb : BX s S) :
    ∃ S1, fX4_weigh 54 S = some S1 ∧ XPi t T W S0 4 c S1 ∧ BX (if s.1 < plF T W c then (plF T W c, c) else s) S1 := by
  have hh := h
  obtain ⟨h1, h2, h3, h4, h5, h6⟩ := h
  have e8 : gI S 74 8 = pre T W c 4 8 := by have := congrFun (h4 4 (Nat.le_refl _)) 8; exact this
  unfold fX4_weigh
  rw [rx_54_2 h1.1, rx_54_3 h1.1, rx_ctold h1.1, lx_57, show bnd (4 : Int32) 5 = true from rfl, if_pos rfl, show (4 : Int32).toNatClampNeg = 4 from rfl, rx_57_4 h1.1, e8, X_wor h1 h2 hW.1, Option.bind_some, h3, plF_und hW hk ea ha, hb.1]
  by_cases cb : s.1 < plF T W c
  · rw [if_neg (Int32.not_le.mpr cb), if_pos cb]
    have f1 : Fr PLX S (pI S 54 4 (plF T W c)) := Fr.rf.pI ⟨by decide, by decide⟩
    obtain ⟨g1, g2⟩ := h1.gen f1 PLX_c
    obtain ⟨S1, q1, q2, q3, q4⟩ := X_best_go (t := t) (S0 := S0) 4 0 1000 _ rfl (by decide) ⟨g1, g2.trans h2, by rw [gI_nek (by decide)]; exact h3, fun j hj => by rw [wX_ne (by omega)]; exact h4 j hj, fun j hj => by rw [gI_neo (by decide)]; exact h5 j hj, h6.tr f1⟩ (fun j hj => by omega)
    exact ⟨S1, q1, q2, q3.trans gI_same, Or.inr q4⟩
  · rw [if_pos (Int32.not_lt.mp cb), if_neg cb]
    exact ⟨S, rfl, hh, hb⟩
def p5 (k : Nat) : Nat := if k = 0 then 625 else if k = 1 then 125 else if k = 2 then 25 else if k = 3 then 5 else 1
theorem dg_step {k c d : Nat} (hk : k < 4) (hc : c % p5 k = 0) (hc6 : c + p5 k ≤ 625) (hd : d < 5) : dg k (c + d * p5 (k + 1)) = d ∧ (∀ j, j < k → dg j (c + d * p5 (k + 1)) = dg j c) ∧ (c + d * p5 (k + 1)) % p5 (k + 1) = 0 ∧ c + d * p5 (k + 1) + p5 (k + 1) ≤ 625 := by
  rcases (by omega : k = 0 ∨ k = 1 ∨ k = 2 ∨ k = 3) with rfl | rfl | rfl | rfl
  · simp only [p5, dg] at *
    simp at hc hc6
    refine ⟨by simp; omega, fun j hj => by omega, by simp; omega, by simp; omega⟩
  · simp only [p5, dg] at *
    simp at hc hc6
    refine ⟨by simp; omega, fun j hj => ?_, by simp; omega, by simp; omega⟩
    have : j = 0 := by omega
    subst this; simp; omega
  · simp only [p5, dg] at *
    simp at hc hc6
    refine ⟨by simp; omega, fun j hj => ?_, by simp; omega, by simp; omega⟩
    rcases (by omega : j = 0 ∨ j = 1) with rfl | rfl <;> simp <;> omega
  · simp only [p5, dg] at *
    simp at hc hc6
    refine ⟨by simp; omega, fun j hj => ?_, by simp; omega, by simp; omega⟩
    rcases (by omega : j = 0 ∨ j = 1 ∨ j = 2) with rfl | rfl | rfl <;> simp <;> omega
theorem p5_5 {k : Nat} (hk : k < 4) : p5 k = 5 * p5 (k + 1) := by
  rcases (by omega : k = 0 ∨ k = 1 ∨ k = 2 ∨ k = 3) with rfl | rfl | rfl | rfl <;> rfl
theorem PXw_L {k : Nat} (hk : k ≤ 4) : ∀ o j, PX (58 + 4 * k) o j → PLX o j := fun o j h => by unfold PX at h; unfold PLX; omega
theorem X_lay_go {t a : Nat} {T : TT} {W : Nat → Int32} {S0 : MS} (hW : WT T) (hE : WE T) (hk : WOK T W) (ea : W 3 = nI a) (ha : a ≤ 9900) : ∀ (e k N c : Nat) (s : Int32 × Nat) (S : MS), 4 = k + e → e < N → c % p5 k = 0 → c + p5 k ≤ 625 → XPi t T W S0 k c S → BX s S →
    ∃ S1, fX4_layN N 54 (nI k) S = some S1 ∧ XPi t T W S0 k c S1 ∧ BX (plGo (plF T W) (p5 k) c s) S1 := by
  intro e
  induction e with
  | zero =>
    intro k N c s S e1 e2 hc hc6 h hb
    obtain ⟨n, rfl⟩ : ∃ n, N = n + 1 := ⟨N - 1, by omega⟩
    have hk4 : k = 4 := by omega
    subst hk4
    obtain ⟨S1, q1, q2, q3⟩ := X_weigh hW hk ea ha h hb
    refine ⟨S1, ?_, q2, q3⟩
    unfold fX4_layN fX4_lay_B fX4_lay_9
    rw [if_neg (by decide), if_neg (by decide), q1]; rfl
  | succ e ih =>
    intro k N c s S e1 e2 hc hc6 h hb
    obtain ⟨n, rfl⟩ : ∃ n, N = n + 1 := ⟨N - 1, by omega⟩
    have hk4 : k < 4 := by omega
    -- the ways from one on
    have ways : ∀ (d way fuel : Nat) (s' : Int32 × Nat) (S' : MS), 5 = way + d → d < fuel → XPi t T W S0 k c S' → BX s' S' → ∃ S1, fX4_lay_25 (fX4_layN n) fuel 54 (nI k) (58 + 4 * (k + 1)) (nI way) S' = some S1 ∧ XPi t T W S0 k c S1 ∧ BX (plGo (plF T W) (d * p5 (k + 1)) (c + way * p5 (k + 1)) s') S1 := by
      intro d
      induction d with
      | zero =>
        intro way fuel s' S' f1 f2 h' hb'
        obtain ⟨f, rfl⟩ : ∃ f, fuel = f + 1 := ⟨fuel - 1, by omega⟩
        refine ⟨S', ?_, h', by rw [Nat.zero_mul]; exact hb'⟩
        unfold fX4_lay_25
        rw [show way = 5 from by omega, if_pos (by decide)]
      | succ d ihw =>
        intro way fuel s' S' f1 f2 h' hb'
        obtain ⟨f, rfl⟩ : ∃ f, fuel = f + 1 := ⟨fuel - 1, by omega⟩
        obtain ⟨h1, h2, h3, h4, h5, h6⟩ := h'
        have hway : ¬ (4 : Int32) < nI way := by rw [show (4 : Int32) = nI 4 from rfl, nI_ltI (by decide) (by omega)]; omega
        unfold fX4_lay_25
        rw [if_neg hway, h3, hb'.1]
        by_cases cu : undS T W ≤ s'.1
        · rw [if_pos cu, plGo_done (fun k => plF_top hW hE hk ea ha) _ _ _ cu]
          exact ⟨S', rfl, ⟨h1, h2, h3, h4, h5, h6⟩, hb'⟩
        · rw [if_neg cu]
          obtain ⟨g1, g2, g3, g4⟩ := dg_step (d := way) hk4 hc hc6 (by omega)
          generalize hcc : c + way * p5 (k + 1) = cc at g1 g2 g3 g4
          -- laid
          have fl : Fr PLX S' (pI S' 56 k (nI way)) := Fr.rf.pI ⟨by decide, by decide⟩
          obtain ⟨l1, l2⟩ := h1.gen fl PLX_c
          have lw : ∀ j, wX (pI S' 56 k (nI way)) (58 + 4 * j) = wX S' (58 + 4 * j) := fun j => wX_ne (by omega)
          -- the next world
          obtain ⟨S1, b1, b2, b3⟩ := X_become (w := 58 + 4 * (k + 1)) (v := 58 + 4 * k) l1.1 (isW5 (by omega)) (isW5 (by omega)) (by omega)
          rw [lw, h4 k (Nat.le_refl _)] at b2
          have hw5 : isW (58 + 4 * (k + 1)) := isW5 (by omega)
          obtain ⟨m1, m2⟩ := l1.gen b3 (fun o j hp => PLX_c o j (PXw_L (k := k + 1) (by omega) o j hp))
          have et1 : tX S1 t = T := m2.trans (l2.trans h2)
          obtain ⟨p1, p2⟩ := pre_ok (c := c) hW hk ea ha k (by omega)
          have att : ∃ S2, (if (4 : Int32) ≤ nI way then some S1 else fX0_attempt 52 (58 + 4 * (k + 1)) (nI way) 0 S1) = some S2 ∧ wX S2 (58 + 4 * (k + 1)) = (if way < 4 then attW T 0 (nI way) (pre T W c k) else pre T W c k) ∧ Fr (PX (58 + 4 * (k + 1))) S1 S2 := by
            by_cases c4 : way < 4
            · rw [if_neg (nle4 c4), if_pos c4]
              obtain ⟨S2, q1, q2, q3⟩ := X_attempt (w := 58 + 4 * (k + 1)) (way := nI way) m1 hw5 (by rw [et1]; exact hW.2.2.2.1) (by rw [et1]; exact hW.2.1) (by rw [b2]; exact p1.2.1) HW00 (fun hh => absurd hh (by decide))
              rw [et1, b2] at q2
              exact ⟨S2, q1, q2, q3⟩
            · have hw4 : way = 4 := by omega
              subst hw4
              rw [if_pos (by decide), if_neg (by decide)]
              exact ⟨S1, rfl, b2, Fr.rf⟩
          obtain ⟨S2, a1, a2, a3⟩ := att
          obtain ⟨k1, k2⟩ := nx_mid (d := way) p1 p2
          have m3 := m1.fr hw5 a3
          have et2 : tX S2 t = T := (m1.told hw5 a3).trans et1
          obtain ⟨S3, r1, r2, r3⟩ := X_pass (w := 58 + 4 * (k + 1)) m3 hw5 et2 hW (by rw [a2]; exact k1) HW00 (fun hh => absurd hh (by decide))
          have m4 := m3.fr hw5 r3
          have et3 : tX S3 t = T := (m3.told hw5 r3).trans et2
          have fr3 : Fr (PX (58 + 4 * (k + 1))) (pI S' 56 k (nI way)) S3 := (b3.tr a3).tr r3
          have frL : Fr PLX S' S3 := fl.tr (fr3.mo (PXw_L (k := k + 1) (by omega)))
          have e54 : ∀ j, gI S3 54 j = gI S' 54 j := fun j => by rw [fr3.2 _ _ (fun hp => by unfold PX at hp; omega), gI_neo (by decide)]
          have e55 : ∀ j, gI S3 55 j = gI S' 55 j := fun j => by rw [fr3.2 _ _ (fun hp => by unfold PX at hp; omega), gI_neo (by decide)]
          have e56 : ∀ j, gI S3 56 j = gI (pI S' 56 k (nI way)) 56 j := fun j => fr3.2 _ _ (fun hp => by unfold PX at hp; omega)
          have wj : ∀ j, j ≤ k → wX S3 (58 + 4 * j) = pre T W c j := fun j hj => by
            rw [Fr.wld fr3 (fun o i p q hp => by unfold PX at hp; omega), lw]; exact h4 j hj
          have hpre : ∀ j, j ≤ k → pre T W cc j = pre T W c j := fun j hj => pre_congr j (fun i hi => g2 i (by omega))
          have hx3 : XPi t T W S0 (k + 1) cc S3 := by
            refine ⟨m4, et3, by rw [e54]; exact h3, fun j hj => ?_, fun j hj => ?_, h6.tr frL⟩
            · by_cases hjk : j = k + 1
              · subst hjk
                rw [r2, a2]
                show _ = nxW T (pre T W cc k) (dg k cc)
                rw [hpre k (Nat.le_refl _), g1]; rfl
              · rw [wj j (by omega), hpre j (by omega)]
            · rw [e56]
              by_cases hjk : j = k
              · subst hjk; rw [gI_same, g1]
              · rw [gI_nek hjk, g2 j (by omega)]; exact h5 j (by omega)
          have hb3 : BX s' S3 := by
            refine ⟨by rw [e54]; exact hb'.1, ?_⟩
            rcases hb'.2 with q | q
            · exact Or.inl q
            · exact Or.inr (fun j hj => by rw [e55]; exact q j hj)
          obtain ⟨S4, t1, t2, t3⟩ := ih (k + 1) n cc s' S3 (by omega) (by omega) g3 g4 hx3 hb3
          -- back at this depth
          have hx4 : XPi t T W S0 k c S4 := by
            obtain ⟨u1, u2, u3, u4, u5, u6⟩ := t2
            exact ⟨u1, u2, u3, fun j hj => by rw [u4 j (by omega), hpre j hj], fun j hj => by rw [u5 j (by omega), g2 j hj], u6⟩
          obtain ⟨S5, v1, v2, v3⟩ := ihw (way + 1) f _ S4 (by omega) (by omega) hx4 t3
          refine ⟨S5, ?_, v2, ?_⟩
          · have bk : bnd (nI k) 4 = true := bnd_nI hk4 (by decide)
            have bk5 : bnd (nI k) 5 = true := bnd_nI (by omega) (by decide)
            have ck : (nI k).toNatClampNeg = k := nI_clamp (by omega)
            unfold fX4_lay_73
            simp only [gR_pI, rx_54_1 h1.1, rx_54_2 h1.1, lx_56, lx_57, bk, bk5, ck, if_true, g57 h1.1 (show k ≤ 4 by omega), b1, Option.bind_some, rx_54_3 m1.1, nI_1]
            by_cases c4 : (4 : Int32) ≤ nI way
            · rw [if_pos c4] at a1 ⊢
              cases a1
              rw [r1, Option.bind_some, t1, Option.bind_some]; exact v1
            · rw [if_neg c4] at a1 ⊢
              rw [a1, Option.bind_some, rx_54_3 m3.1, r1, Option.bind_some, t1, Option.bind_some]; exact v1
          · rw [show (d + 1) * p5 (k + 1) = p5 (k + 1) + d * p5 (k + 1) from by rw [Nat.add_mul, Nat.one_mul, Nat.add_comm], plGo_add, show cc + p5 (k + 1) = c + (way + 1) * p5 (k + 1) from by rw [← hcc, Nat.add_mul, Nat.one_mul]; omega]
            exact v3
    obtain ⟨S1, q1, q2, q3⟩ := ways 5 0 1000 s S (by omega) (by omega) h hb
    have q1' : fX4_lay_25 (fX4_layN n) 1000 54 (nI k) (58 + 4 * (k + 1)) (0 : Int32) S = some S1 := q1
    refine ⟨S1, ?_, q2, ?_⟩
    · unfold fX4_layN fX4_lay_B
      rw [if_neg (nI_pos (by omega)), if_pos (show nI k < (4 : Int32) from nI_lt (b := 4) hk4 (by decide)), nI_1, rx_54_2 h.1.1, lx_57, bnd_nI (show k + 1 < 5 by omega) (by decide), if_pos rfl, nI_clamp (by omega), g57 h.1.1 (show k + 1 ≤ 4 by omega), q1']
    · rw [p5_5 hk4, Nat.zero_mul, Nat.add_zero] at *
      exact q3
theorem plGo_s {f : Nat → Int32} {d k : Nat} {s : Int32 × Nat} : plGo f (d + 1) k s = plGo f d (k + 1) (if s.1 < f k then (f k, k) else s) := rfl
theorem i4_all {z : Int32} (h1 : ¬ z < 0) (h2 : z ≤ 4) (h3 : z ≠ 4) : ∃ j, j < 4 ∧ z = nI j := by
  rcases i4_n h1 h2 h3 with rfl | rfl | rfl | rfl
  · exact ⟨0, by decide, rfl⟩
  · exact ⟨1, by decide, rfl⟩
  · exact ⟨2, by decide, rfl⟩
  · exact ⟨3, by decide, rfl⟩
theorem sim_19 : Sim_19 Inv := by
  intro SX SM z0 ⟨t, T, h⟩
  have hv := h.th
  have hiv : Inv SX (th0 SM) := ⟨t, T, hv⟩
  obtain ⟨hX, hM, ex, em, hW, h57, hE⟩ := hv.1
  have hw := hv.2.1.1
  have hk := hv.2.1.2.1
  obtain ⟨a, ha, ea⟩ := hour_of hk hv.2.1.2.2
  unfold fX10_plan fX11_plan
  by_cases c1 : z0 < 0
  · rw [if_pos c1, if_pos c1]; exact ⟨_, _, rfl, rfl, rfl, hiv⟩
  rw [if_neg c1, if_neg c1]
  by_cases c2 : z0 ≤ 4
  · rw [if_pos c2, if_pos c2]
    -- the class
    have f1 : Fr PLX SX (pI SX 54 4 (-1)) := Fr.rf.pI ⟨by decide, by decide⟩
    obtain ⟨g1, g2⟩ := hX.gen f1 PLX_c
    have e8 : gI (pI SX 54 4 (-1)) 87 8 = wM (th0 SM) 0 8 := by rw [gI_neo (by decide)]; exact congrFun hw 8
    have wo : fX8_worthOf t (wM (th0 SM) 0 8 ^^^ (-1)) (pI SX 54 4 (-1)) = some (undS T (wM (th0 SM) 0)) := X_wor g1 (g2.trans ex) hW.1
    have f2 : Fr PLX SX (pI (pI SX 54 4 (-1)) 54 5 (undS T (wM (th0 SM) 0))) := f1.pI ⟨by decide, by decide⟩
    obtain ⟨k1, k2⟩ := hX.gen f2 PLX_c
    obtain ⟨S1, b1, b2, b3⟩ := X_become (w := 58) (v := 87) k1.1 (isW5 (k := 0) (by decide)) W87 (by decide)
    rw [wX_ne (by decide), wX_ne (by decide), hw] at b2
    have b3L : Fr PLX (pI (pI SX 54 4 (-1)) 54 5 (undS T (wM (th0 SM) 0))) S1 := b3.mo (PXw_L (k := 0) (by decide))
    obtain ⟨m1, m2⟩ := k1.gen b3L PLX_c
    have e54 : ∀ j, gI S1 54 j = gI (pI (pI SX 54 4 (-1)) 54 5 (undS T (wM (th0 SM) 0))) 54 j := fun j => b3.2 _ _ (fun hp => by unfold PX at hp; omega)
    obtain ⟨S2, q1, q2, q3⟩ := X_lay_go (t := t) (W := wM (th0 SM) 0) (S0 := SX) hW hE hk ea ha 4 0 6 0 (-1, 0) S1 rfl (by decide) (by decide) (by decide) ⟨m1, m2.trans (k2.trans ex), by rw [e54]; exact gI_same, fun j hj => by
      have : j = 0 := by omega
      subst this; exact b2, fun j hj => by omega, f2.tr b3L⟩ ⟨by rw [e54, gI_nek (by decide), gI_same], Or.inl rfl⟩
    have q1' : fX4_lay 54 (0 : Int32) S1 = some S2 := q1
    -- the reference
    have fm : Fr PLM (th0 SM) (pI (th0 SM) 0 65 (-1)) := Fr.rf.pI (Or.inr (Or.inl ⟨rfl, rfl⟩))
    have hmp : MPi T (wM (th0 SM) 0) (th0 SM) (th0 SM) := ⟨hM, em, h57, rfl, Fr.rf⟩
    obtain ⟨M1, r1, r2, r3⟩ := M_plan_go (x1 := z0) (S0 := th0 SM) hW hE hk ea ha 625 0 1000 (-1, 0) (pI (th0 SM) 0 65 (-1)) rfl (by decide) (hmp.fr fm) ⟨gI_same, Or.inl rfl⟩
    have r1' : fX11_plan_23 1000 0 z0 (0 : Int32) (pI (th0 SM) 0 65 (-1)) = _ := r1
    -- both
    have hst : ∃ s : Int32 × Nat, s = plGo (plF T (wM (th0 SM) 0)) 625 0 (-1, 0) ∧ ¬ s.1 = -1 := by
      refine ⟨_, rfl, fun e => ?_⟩
      have e1 : plGo (plF T (wM (th0 SM) 0)) 625 0 (-1, 0) = plGo (plF T (wM (th0 SM) 0)) 624 1 (if (-1 : Int32) < plF T (wM (th0 SM) 0) 0 then (plF T (wM (th0 SM) 0) 0, 0) else (-1, 0)) := plGo_s (d := 624)
      have nn := plF_nn (c := 0) hW hE hk ea ha
      have lt : (-1 : Int32) < plF T (wM (th0 SM) 0) 0 := by grind
      rw [e1, if_pos lt] at e
      have ge := plGo_ge (f := plF T (wM (th0 SM) 0)) 624 1 (plF T (wM (th0 SM) 0) 0, 0)
      rw [e] at ge
      exact absurd (Int32.le_trans nn ge) (by decide)
    obtain ⟨s, es, hs⟩ := hst
    have q3' : BX s S2 := by rw [es]; exact q3
    rw [← es] at r3
    have x55 := q3'.2.resolve_left hs
    have m41 := r3.2.resolve_left hs
    have hv2 : Iv t T S2 M1 := by
      refine hv.quiet (q2.2.2.2.2.2.mo PLX_Q) (Fr.wld q2.2.2.2.2.2 (fun o j p q hp => by unfold PLX at hp; omega)) (r2.2.2.2.2.mo PLM_Q) r2.2.2.2.1
    unfold fX4_search
    simp only [gR_pI, rx_0_5 hX.1, rx_0_9 hX.1, rx_54_2 hX.1, rx_54_3 hX.1, rx_ctold hX.1, e8, wo, Option.bind_some, lx_57, show bnd (0 : Int32) 5 = true from rfl, if_true, show (0 : Int32).toNatClampNeg = 0 from rfl, rx_57_0 hX.1, b1, q1', rx_0_5 q2.1.1, rx_54_0 q2.1.1, lx_55]
    rw [r1']
    by_cases c4 : z0 = 4
    · rw [if_pos c4, if_pos c4]
      exact ⟨_, _, rfl, rfl, q3'.1.trans r3.1.symm, t, T, hv2⟩
    · rw [if_neg c4, if_neg c4]
      obtain ⟨j, hj, rfl⟩ := i4_all c1 c2 c4
      rw [bnd_nI hj (by decide), if_pos rfl, if_pos rfl, nI_clamp (by omega)]
      exact ⟨_, _, rfl, rfl, (x55 j hj).trans (m41 j hj).symm, t, T, hv2⟩
  · rw [if_neg c2, if_neg c2]; exact ⟨_, _, rfl, rfl, rfl, hiv⟩
