/-! ===== four hours laid out: the reference ===== -/
theorem nI_mod {x n : Nat} (hx : x < 2 ^ 31) (hn : n < 2 ^ 31) : nI x - nI x / nI n * nI n = nI (x % n) := by
  rw [nI_div hx hn, nI_mul, nI_subN (Nat.div_mul_le_self x n)]
  have := Nat.div_add_mod x n
  rw [Nat.mul_comm] at this
  congr 1; omega
def BM (s : Int32 × Nat) (S : MS) : Prop := gI S 0 65 = s.1 ∧ (s.1 = -1 ∨ ∀ j, j < 4 → gI S 41 j = nI (dg j s.2))
def PLM (o j : Nat) : Prop := PM 1 o j ∨ (o = 0 ∧ j = 65) ∨ o = 40 ∨ o = 41
theorem PLM_Q : ∀ o j, PLM o j → QM o j := fun o j h => by unfold PLM PM at h; unfold QM; omega
/-- what the reference keeps while it lays out -/
def MPi (T : TT) (W : Nat → Int32) (S0 S : MS) : Prop := MO S ∧ tM S = T ∧ gI S 0 57 = 0 ∧ wM S 0 = W ∧ Fr PLM S0 S
theorem PLM_t : ∀ o j, 2 ≤ o → o < 25 → ¬ PLM o j := fun o j a b h => by unfold PLM PM at h; omega
theorem MPi.fr {T : TT} {W : Nat → Int32} {S0 S S1 : MS} (h : MPi T W S0 S) (f : Fr PLM S S1) : MPi T W S0 S1 := by
  obtain ⟨h1, h2, h3, h4, h5⟩ := h
  refine ⟨h1.of f.1 (fun o j a b => f.2 _ _ (PLM_t o j a b)), (Fr.toldM f PLM_t).trans h2, ?_, ?_, h5.tr f⟩
  · rw [f.2 _ _ (fun hp => by unfold PLM PM at hp; omega)]; exact h3
  · rw [wM_same (fun k a b => f.2 _ _ (fun hc => by unfold PLM PM at hc; omega)) (fun o j a b c d => f.2 _ _ (fun hc => by unfold PLM PM at hc; omega))]; exact h4
theorem PM1_L : ∀ o j, PM 1 o j → PLM o j := fun _ _ h => Or.inl h
theorem M_nx {T : TT} {W : Nat → Int32} {S0 S : MS} {d a : Nat} {V : Nat → Int32} (hW : WT T) (h : MPi T W S0 S) (hd : d ≤ 4) (ev : wM S 1 = V) (hk : WOK T V) (ea : V 3 = nI a) (ha : a < 20000) :
    ∃ S1 S2, (if (4 : Int32) ≤ nI d then some S else fX11_triesStep 0 (1 : Int32) (nI d) S) = some S1 ∧ fX11_passes 0 (1 : Int32) (0 : Int32) S1 = some S2 ∧ wM S2 1 = nxW T V d ∧ Fr (PM 1) S S2 := by
  obtain ⟨h1, h2, h3, h4, h5⟩ := h
  have step : ∃ S1, (if (4 : Int32) ≤ nI d then some S else fX11_triesStep 0 (1 : Int32) (nI d) S) = some S1 ∧ wM S1 1 = (if d < 4 then attW T 0 (nI d) V else V) ∧ Fr (PM 1) S S1 := by
    by_cases c : d < 4
    · rw [if_neg (nle4 c), if_pos c]
      obtain ⟨S1, q1, q2, q3⟩ := M_tries (r := 1) (way := nI d) h1 (by rw [h2]; exact hW.2.2.2.1) (by rw [h2]; exact hW.2.2.1) (by decide) h3
      rw [h2, ev] at q2
      exact ⟨S1, q1, q2, q3⟩
    · have hd4 : d = 4 := by omega
      subst hd4
      rw [if_pos (by decide), if_neg (by decide)]
      exact ⟨S, rfl, ev, Fr.rf⟩
  obtain ⟨S1, q1, q2, q3⟩ := step
  obtain ⟨k1, k2⟩ := nx_mid (d := d) hk ea
  obtain ⟨S2, r1, r2, r3, r4⟩ := M_pass (r := 1) (dr := false) (h1.fr q3) (by decide) ((MO.told q3).trans h2) hW (by rw [q2]; exact k1) (show gI S1 0 57 = 0 by rw [q3.2 _ _ (fun hp => by unfold PM at hp; omega)]; exact h3)
  exact ⟨S1, S2, q1, r1, by rw [r2, q2]; rfl, q3.tr r3⟩
theorem M_pl_go {T : TT} {W : Nat → Int32} {S0 : MS} {K : Nat → Int32 → Int32 → MS → Option (Int32 × MS)} {x1 x2 : Int32} {c a : Nat} (hW : WT T) (hk : WOK T W) (ea : W 3 = nI a) (ha : a ≤ 9900) (hc : c < 625) : ∀ (d i fuel : Nat) (S : MS), 4 = i + d → d < fuel → MPi T W S0 S → wM S 1 = pre T W c i → (∀ j, j < 4 → gI S 40 j = nI (dg j c)) →
    ∃ S1, fX11_plan_80 K fuel 0 x1 x2 (nI i) S = (if gI S1 0 65 < plF T W c then fX11_plan_149 K 1000 0 x1 x2 0 (pI S1 0 65 (plF T W c)) else fX11_plan_175 K 0 x1 x2 S1) ∧ MPi T W S0 S1 ∧ gI S1 0 65 = gI S 0 65 ∧ (∀ j, gI S1 40 j = gI S 40 j) ∧ (∀ j, gI S1 41 j = gI S 41 j) := by
  intro d
  induction d with
  | zero =>
    intro i fuel S e1 e2 h hw h40
    obtain ⟨f, rfl⟩ : ∃ f, fuel = f + 1 := ⟨fuel - 1, by omega⟩
    have hi : i = 4 := by omega
    subst hi
    refine ⟨S, ?_, h, rfl, fun _ => rfl, fun _ => rfl⟩
    have w1 : fX11_worthOf 0 (1 : Int32) S = _ := M_wor (r := 1) h.1.1 h.2.1 hW.1 (by decide)
    have w0 : fX11_worthOf 0 (0 : Int32) S = _ := M_wor (r := 0) h.1.1 h.2.1 hW.1 (by decide)
    rw [hw] at w1
    rw [h.2.2.2.1] at w0
    unfold fX11_plan_80
    rw [if_pos (by decide), w1, Option.bind_some, w0, Option.bind_some]
    rfl
  | succ d ih =>
    intro i fuel S e1 e2 h hw h40
    obtain ⟨f, rfl⟩ : ∃ f, fuel = f + 1 := ⟨fuel - 1, by omega⟩
    obtain ⟨p1, p2⟩ := pre_ok (c := c) hW hk ea ha i (by omega)
    have hdg : dg i c ≤ 4 := by
      rcases (by omega : i = 0 ∨ i = 1 ∨ i = 2 ∨ i = 3) with rfl | rfl | rfl | rfl
      · show c / 125 ≤ 4; omega
      · show c / 25 % 5 ≤ 4; omega
      · show c / 5 % 5 ≤ 4; omega
      · show c % 5 ≤ 4; omega
    obtain ⟨S1, S2, q1, q2, q3, q4⟩ := M_nx (d := dg i c) hW h hdg hw p1 p2 (by omega)
    have h2 := h.fr (q4.mo PM1_L)
    have e65 : gI S2 0 65 = gI S 0 65 := q4.2 _ _ (fun hp => by unfold PM at hp; omega)
    have e40 : ∀ j, gI S2 40 j = gI S 40 j := fun j => q4.2 _ _ (fun hp => by unfold PM at hp; omega)
    have e41 : ∀ j, gI S2 41 j = gI S 41 j := fun j => q4.2 _ _ (fun hp => by unfold PM at hp; omega)
    obtain ⟨S3, r1, r2, r3, r4, r5⟩ := ih (i + 1) f S2 (by omega) (by omega) h2 q3 (fun j hj => by rw [e40]; exact h40 j hj)
    refine ⟨S3, ?_, r2, r3.trans e65, fun j => (r4 j).trans (e40 j), fun j => (r5 j).trans (e41 j)⟩
    have g := h40 i (by omega)
    have e : fX11_plan_80 K (f + 1) 0 x1 x2 (nI i) S = fX11_plan_80 K f 0 x1 x2 (nI (i + 1)) S2 := by
      conv => lhs; unfold fX11_plan_80
      unfold fX11_plan_106
      rw [if_neg (nle4 (by omega)), mr_63 h.1.1, lm_40, bnd_nI (show i < 4 by omega) (by decide), if_pos rfl, nI_clamp (by omega), g, if_pos rfl]
      by_cases c4 : (4 : Int32) ≤ nI (dg i c)
      · rw [if_pos c4] at q1 ⊢
        cases q1
        rw [q2, Option.bind_some, nI_1]
      · rw [if_neg c4] at q1 ⊢
        rw [q1, Option.bind_some, q2, Option.bind_some, nI_1]
    rw [e]; exact r1
theorem M_best_go {T : TT} {W : Nat → Int32} {S0 : MS} {K : Nat → Int32 → Int32 → MS → Option (Int32 × MS)} {x1 x2 : Int32} {c : Nat} : ∀ (d i fuel : Nat) (S : MS), 4 = i + d → d < fuel → MPi T W S0 S → (∀ j, j < 4 → gI S 40 j = nI (dg j c)) → (∀ j, j < i → gI S 41 j = nI (dg j c)) →
    ∃ S1, fX11_plan_149 K fuel 0 x1 x2 (nI i) S = K 0 x1 (x2 + 1) S1 ∧ MPi T W S0 S1 ∧ gI S1 0 65 = gI S 0 65 ∧ (∀ j, j < 4 → gI S1 41 j = nI (dg j c)) := by
  intro d
  induction d with
  | zero =>
    intro i fuel S e1 e2 h h40 h41
    obtain ⟨f, rfl⟩ : ∃ f, fuel = f + 1 := ⟨fuel - 1, by omega⟩
    refine ⟨S, ?_, h, rfl, fun j hj => h41 j (by omega)⟩
    unfold fX11_plan_149 fX11_plan_175
    rw [show i = 4 from by omega, if_pos (by decide)]
  | succ d ih =>
    intro i fuel S e1 e2 h h40 h41
    obtain ⟨f, rfl⟩ : ∃ f, fuel = f + 1 := ⟨fuel - 1, by omega⟩
    unfold fX11_plan_149
    rw [if_neg (nle4 (by omega)), mr_63 h.1.1, mr_64 h.1.1, lm_40, lm_41, bnd_nI (show i < 4 by omega) (by decide), if_pos rfl, if_pos rfl, nI_clamp (by omega), h40 i (by omega), nI_1]
    have f1 : Fr PLM S (pI S 41 i (nI (dg i c))) := Fr.rf.pI (Or.inr (Or.inr (Or.inr rfl)))
    obtain ⟨S1, q1, q2, q3, q4⟩ := ih (i + 1) f _ (by omega) (by omega) (h.fr f1) (fun j hj => by rw [gI_neo (by decide)]; exact h40 j hj) (fun j hj => by
      by_cases hji : j = i
      · subst hji; exact gI_same
      · rw [gI_nek hji]; exact h41 j (by omega))
    exact ⟨S1, q1, q2, q3.trans (gI_neo (by decide)), q4⟩
theorem M_code {T : TT} {W : Nat → Int32} {S0 S : MS} {x1 : Int32} {c a f : Nat} {s : Int32 × Nat} (hW : WT T) (hE : WE T) (hk : WOK T W) (ea : W 3 = nI a) (ha : a ≤ 9900) (hc : c < 625) (h : MPi T W S0 S) (hb : BM s S) :
    ∃ S1, fX11_plan_23 (f + 1) 0 x1 (nI c) S = fX11_plan_23 f 0 x1 (nI (c + 1)) S1 ∧ MPi T W S0 S1 ∧ BM (if s.1 < plF T W c then (plF T W c, c) else s) S1 := by
  have hM := h.1.1
  have d0 : nI c / 125 = nI (c / 125) := nI_div (by omega) (by decide)
  have d25 : nI c / 25 = nI (c / 25) := nI_div (by omega) (by decide)
  have d5 : nI c / 5 = nI (c / 5) := nI_div (by omega) (by decide)
  have d1 : nI (c / 25) - nI (c / 25) / 5 * 5 = nI (c / 25 % 5) := nI_mod (n := 5) (by omega) (by decide)
  have d2 : nI (c / 5) - nI (c / 5) / 5 * 5 = nI (c / 5 % 5) := nI_mod (n := 5) (by omega) (by decide)
  have d3 : nI c - nI (c / 5) * 5 = nI (c % 5) := by rw [← d5]; exact nI_mod (n := 5) (by omega) (by decide)
  have p40 : ∀ j, PLM 40 j := fun j => Or.inr (Or.inr (Or.inl rfl))
  have f1 : Fr PLM S (pI (pI (pI (pI S 40 0 (nI (c / 125))) 40 1 (nI (c / 25 % 5))) 40 2 (nI (c / 5 % 5))) 40 3 (nI (c % 5))) := (((Fr.rf.pI (p40 _)).pI (p40 _)).pI (p40 _)).pI (p40 _)
  have h1 := h.fr f1
  obtain ⟨S2, q1, q2, q3⟩ := M_copies (a := 1) (b := 0) h1.1.1 (by decide) (by decide) (by decide)
  rw [h1.2.2.2.1] at q2
  have q1' : fX11_copies 0 (1 : Int32) (0 : Int32) (pI (pI (pI (pI S 40 0 (nI (c / 125))) 40 1 (nI (c / 25 % 5))) 40 2 (nI (c / 5 % 5))) 40 3 (nI (c % 5))) = some S2 := q1
  have f2 : Fr PLM _ S2 := q3.mo (fun o j hp => PM1_L o j (PMw_M o j hp))
  have h2 := h1.fr f2
  have e40 : ∀ j, j < 4 → gI S2 40 j = nI (dg j c) := fun j hj => by
    rw [q3.2 _ _ (fun hp => by unfold PMw at hp; omega)]
    rcases (by omega : j = 0 ∨ j = 1 ∨ j = 2 ∨ j = 3) with rfl | rfl | rfl | rfl <;> simp [gI_pI, dg]
  have e65 : gI S2 0 65 = s.1 := by
    rw [q3.2 _ _ (fun hp => by unfold PMw at hp; omega), gI_neo (by decide), gI_neo (by decide), gI_neo (by decide), gI_neo (by decide)]; exact hb.1
  have e41 : ∀ j, gI S2 41 j = gI S 41 j := fun j => by
    rw [q3.2 _ _ (fun hp => by unfold PMw at hp; omega), gI_neo (by decide), gI_neo (by decide), gI_neo (by decide), gI_neo (by decide)]
  obtain ⟨S3, r1, r2, r3, r4, r5⟩ := M_pl_go (K := fX11_plan_23 f) (x1 := x1) (x2 := nI c) (S0 := S0) hW hk ea ha hc 4 0 1000 S2 rfl (by decide) h2 q2 e40
  have r1' : fX11_plan_80 (fX11_plan_23 f) 1000 0 x1 (nI c) (0 : Int32) S2 = _ := r1
  have e0 : fX11_plan_23 (f + 1) 0 x1 (nI c) S = (if gI S3 0 65 < plF T W c then fX11_plan_149 (fX11_plan_23 f) 1000 0 x1 (nI c) 0 (pI S3 0 65 (plF T W c)) else fX11_plan_175 (fX11_plan_23 f) 0 x1 (nI c) S3) := by
    rw [← r1']
    conv => lhs; unfold fX11_plan_23
    unfold fX11_plan_52 fX11_plan_72
    simp only [show ¬ (625 : Int32) ≤ nI c from nle (n := 625) (by decide) hc, if_false, gR_pI, mr_63 hM, lm_40, show bnd (0 : Int32) 4 = true from rfl, show bnd (1 : Int32) 4 = true from rfl, show bnd (2 : Int32) 4 = true from rfl, show bnd (3 : Int32) 4 = true from rfl, if_true, show (0 : Int32).toNatClampNeg = 0 from rfl, show (1 : Int32).toNatClampNeg = 1 from rfl, show (2 : Int32).toNatClampNeg = 2 from rfl, show (3 : Int32).toNatClampNeg = 3 from rfl, d0, d25, d5, d1, d2, d3, q1', Option.bind_some]
  rw [e0, r3, e65]
  by_cases cb : s.1 < plF T W c
  · rw [if_pos cb, if_pos cb]
    have f3 : Fr PLM S3 (pI S3 0 65 (plF T W c)) := Fr.rf.pI (Or.inr (Or.inl ⟨rfl, rfl⟩))
    obtain ⟨S4, t1, t2, t3, t4⟩ := M_best_go (K := fX11_plan_23 f) (x1 := x1) (x2 := nI c) (S0 := S0) (c := c) 4 0 1000 _ rfl (by decide) (r2.fr f3) (fun j hj => by rw [gI_neo (by decide), r4]; exact e40 j hj) (fun j hj => by omega)
    have t1' : fX11_plan_149 (fX11_plan_23 f) 1000 0 x1 (nI c) (0 : Int32) (pI S3 0 65 (plF T W c)) = _ := t1
    refine ⟨S4, by rw [t1', nI_1], t2, t3.trans gI_same, Or.inr t4⟩
  · rw [if_neg cb, if_neg cb]
    refine ⟨S3, by unfold fX11_plan_175; rw [nI_1], r2, r3.trans e65, ?_⟩
    rcases hb.2 with hb2 | hb2
    · exact Or.inl hb2
    · exact Or.inr (fun j hj => by rw [r5, e41]; exact hb2 j hj)
theorem M_plan_go {T : TT} {W : Nat → Int32} {S0 : MS} {x1 : Int32} {a : Nat} (hW : WT T) (hE : WE T) (hk : WOK T W) (ea : W 3 = nI a) (ha : a ≤ 9900) : ∀ (d c fuel : Nat) (s : Int32 × Nat) (S : MS), 625 = c + d → d < fuel → MPi T W S0 S → BM s S →
    ∃ S1, fX11_plan_23 fuel 0 x1 (nI c) S = (if x1 = (4 : Int32) then some (gI S1 0 65, S1) else (if bnd x1 4 = true then some (gI S1 41 x1.toNatClampNeg, S1) else none)) ∧ MPi T W S0 S1 ∧ BM (plGo (plF T W) d c s) S1 := by
  intro d
  induction d with
  | zero =>
    intro c fuel s S e1 e2 h hb
    obtain ⟨f, rfl⟩ : ∃ f, fuel = f + 1 := ⟨fuel - 1, by omega⟩
    refine ⟨S, ?_, h, hb⟩
    unfold fX11_plan_23
    rw [show c = 625 from by omega, if_pos (by decide), mr_64 h.1.1, lm_41]
  | succ d ih =>
    intro c fuel s S e1 e2 h hb
    obtain ⟨f, rfl⟩ : ∃ f, fuel = f + 1 := ⟨fuel - 1, by omega⟩
    obtain ⟨S1, q1, q2, q3⟩ := M_code (x1 := x1) (f := f) hW hE hk ea ha (show c < 625 by omega) h hb
    rw [q1]
    exact ih (c + 1) f _ S1 (by omega) (by omega) q2 q3
