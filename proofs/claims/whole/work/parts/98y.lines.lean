/-! ===== a line, taken or not ===== -/
/-- what the class keeps while it reads -/
def QFX (u : Nat) (S S1 : MS) : Prop := (∀ o j, ¬ (o = 48 ∧ j = 10) → gR S1 o j = gR S o j) ∧ ∀ o j, ¬ PD u o j → gI S1 o j = gI S o j
theorem QFX.of {u : Nat} {P : Nat → Nat → Prop} {S S1 : MS} (f : Fr P S S1) (hp : ∀ o j, P o j → PD u o j) : QFX u S S1 := ⟨fun o j _ => f.ref o j, fun o j h => f.2 o j (fun q => h (hp o j q))⟩
theorem QFX.tr {u : Nat} {S S1 S2 : MS} (h : QFX u S S1) (g : QFX u S1 S2) : QFX u S S2 := ⟨fun o j q => (g.1 o j q).trans (h.1 o j q), fun o j q => (g.2 o j q).trans (h.2 o j q)⟩
/-- where the reference writes while it reads -/
def QFM (o j : Nat) : Prop := (o = 0 ∧ ((26 ≤ j ∧ j ≤ 28) ∨ (30 ≤ j ∧ j ≤ 35) ∨ j = 38 ∨ j = 39)) ∨ (o = 2 ∧ 13 ≤ j) ∨ (o = 3 ∧ 8 ≤ j) ∨ (4 ≤ o ∧ o ≤ 6 ∧ 6 ≤ j) ∨ (7 ≤ o ∧ o ≤ 10 ∧ 4 ≤ j) ∨ (11 ≤ o ∧ o ≤ 12 ∧ 12 ≤ j) ∨ (13 ≤ o ∧ o ≤ 17 ∧ 8 ≤ j) ∨ (18 ≤ o ∧ o ≤ 20 ∧ 4 ≤ j) ∨ ((o = 21 ∨ o = 22) ∧ 3 ≤ j) ∨ ((o = 23 ∨ o = 24) ∧ 64 ≤ j)
theorem Q0 {j : Nat} (h : (26 ≤ j ∧ j ≤ 28) ∨ (30 ≤ j ∧ j ≤ 35) ∨ j = 38 ∨ j = 39) : QFM 0 j := Or.inl ⟨rfl, h⟩
theorem Q2 {j : Nat} (h : 13 ≤ j) : QFM 2 j := Or.inr (Or.inl ⟨rfl, h⟩)
theorem NN_Q : ∀ o j, NN o j → QFM o j := fun o j h => by
  obtain ⟨rfl, h⟩ := h
  exact Q0 (by omega)
theorem NM_Q : ∀ o j, (NM o j ∨ (o = 0 ∧ j = 27)) → QFM o j := fun o j h => by
  rcases h with h | ⟨rfl, rfl⟩
  · exact NN_Q o j (NM_NN o j h)
  · exact Q0 (by decide)
theorem EM_Q : ∀ o j, EM o j → QFM o j := fun o j h => by
  rcases h with h | ⟨rfl, rfl⟩
  · exact NN_Q o j h
  · exact Q0 (by decide)
theorem EX_PD {u : Nat} : ∀ o j, EX o j → PD u o j := fun o j h => by
  rcases h with h | ⟨rfl, rfl⟩
  · exact NY_PD o j h
  · exact PD48 (by decide)
theorem NX_PD {u : Nat} : ∀ o j, NX o j → PD u o j := fun o j h => NY_PD o j (NX_NY o j h)
theorem CFM_Q {lo hi : Nat} (h13 : 13 ≤ lo) : ∀ o j, CFM lo hi o j → QFM o j := fun o j h => by
  rcases h with h | ⟨rfl, h⟩
  · exact NN_Q o j h
  · exact Q2 (by omega)
theorem WFM_Q : ∀ o j, WFM o j → QFM o j := fun o j h => by
  rcases h with h | h | ⟨rfl, rfl⟩
  · exact NN_Q o j h
  · exact Or.inr (Or.inr (Or.inl h))
  · exact Q2 (by decide)
theorem CFX_PD {u lo hi : Nat} (h8 : 8 ≤ lo) : ∀ o j, CFX u lo hi o j → PD u o j := fun o j h => by
  rcases h with h | ⟨rfl, h⟩ | ⟨rfl, h⟩
  · exact NY_PD o j h
  · exact PDu (by omega)
  · exact PD48 (by omega)
theorem WFX_PD {u : Nat} : ∀ o j, WFX u o j → PD u o j := fun o j h => by
  rcases h with h | h | ⟨rfl, rfl⟩
  · exact NY_PD o j h
  · exact Or.inr (Or.inr (Or.inr (Or.inl h)))
  · exact PDu (by decide)
theorem LFX_PD {u q : Nat} (hq : q < 5) : ∀ o j, LFX u q o j → PD u o j := fun o j h => by
  rcases h with h | h | ⟨h, h'⟩
  · exact NY_PD o j h
  · exact Or.inr (Or.inr (Or.inr (Or.inr (Or.inl ⟨by omega, by omega, fun _ => by omega⟩))))
  · exact Or.inr (Or.inr (Or.inr (Or.inr (Or.inl ⟨by omega, by omega, fun _ => h'⟩))))
theorem LFM_Q {q : Nat} (hq : q < 5) : ∀ o j, LFM q o j → QFM o j := by
  intro o j h
  rcases h with h | h | ⟨rfl, h⟩
  · exact NN_Q o j h
  · have b := h.1
    have c := h.2.1
    have d := h.2.2
    rcases (by omega : q = 0 ∨ q = 1 ∨ q = 2 ∨ q = 3 ∨ q = 4) with rfl | rfl | rfl | rfl | rfl
    · have b' : 4 ≤ o := b
      have c' : o < 4 + 3 := c
      exact Or.inr (Or.inr (Or.inr (Or.inl ⟨b', by omega, d⟩)))
    · have b' : 7 ≤ o := b
      have c' : o < 7 + 4 := c
      exact Or.inr (Or.inr (Or.inr (Or.inr (Or.inl ⟨b', by omega, d⟩))))
    · have b' : 11 ≤ o := b
      have c' : o < 11 + 2 := c
      exact Or.inr (Or.inr (Or.inr (Or.inr (Or.inr (Or.inl ⟨b', by omega, d⟩)))))
    · have b' : 13 ≤ o := b
      have c' : o < 13 + 5 := c
      exact Or.inr (Or.inr (Or.inr (Or.inr (Or.inr (Or.inr (Or.inl ⟨b', by omega, d⟩))))))
    · have b' : 18 ≤ o := b
      have c' : o < 18 + 3 := c
      exact Or.inr (Or.inr (Or.inr (Or.inr (Or.inr (Or.inr (Or.inr (Or.inl ⟨b', by omega, d⟩)))))))
  · exact Q2 (by omega)
theorem LFS_Q : ∀ o j, LFS o j → QFM o j := fun o j h => by
  rcases h with h | h
  · exact LFM_Q (by decide) o j h
  · obtain ⟨rfl, rfl⟩ := h
    exact Q0 (by decide)
def LNo (t n : Nat) (bt : Nat → Nat) (u g ln : Nat) (SX SM SX1 SM1 : MS) : Prop :=
  (JF t n bt SX1 SM1 ∨ ∃ (a e r c hr hc nw : Nat) (kq : Nat → Nat) (cl sd kn : Nat) (zl : Nat → Nat), JO t n bt a e SX1 SM1 ∧ g ≤ a ∧ (hr < r ∧ hc < c) ∧ BD u SX1 SM1 r c hr hc nw kq cl sd kn zl ln) ∧ QFX u SX SX1 ∧ Fr QFM SM SM1
theorem FG.fr {zl : Nat → Nat} {P Q : Nat → Nat → Prop} {SX SM A B : MS} (h : FG SX SM zl) (f : Fr P SX A) (g : Fr Q SM B) (p : ∀ j, 13 ≤ j → j ≤ 15 → ¬ P 48 j) (q : ¬ Q 0 27) : FG A B zl := by
  refine ⟨fun k hk => (tbit_fr g q).trans (h.1 k hk), ?_, ?_, ?_⟩
  · rw [f.2 _ _ (p 13 (by decide) (by decide)), tbit_fr g q]; exact h.2.1
  · rw [f.2 _ _ (p 14 (by decide) (by decide)), tbit_fr g q]; exact h.2.2.1
  · rw [f.2 _ _ (p 15 (by decide) (by decide)), tbit_fr g q]; exact h.2.2.2
theorem FG.kp {zl : Nat → Nat} {w : Nat} {SX SM A B : MS} (h : FG SX SM zl) (hw : w < 32) (hn : w ≠ 1 ∧ w ≠ 8 ∧ w ≠ 9 ∧ (w < 16 ∨ 18 < w)) (tb : gI B 0 27 = (gI SM 0 27 ||| ((1 : Int32) <<< (nI w &&& 31)))) (f : ∀ j, 13 ≤ j → j ≤ 15 → gI A 48 j = gI SX 48 j) : FG A B zl := by
  have tw : ∀ w', w' < 32 → w' ≠ w → (tbit B w' ↔ tbit SM w') := fun w' h1 h2 => by
    rw [tbit_set h1 hw tb]; exact ⟨fun q => q.resolve_right h2, Or.inl⟩
  refine ⟨fun k hk => (tw _ (by omega) (by omega)).trans (h.1 k hk), ?_, ?_, ?_⟩
  · rw [f 13 (by decide) (by decide), tw 1 (by decide) (by omega)]; exact h.2.1
  · rw [f 14 (by decide) (by decide), tw 8 (by decide) (by omega)]; exact h.2.2.1
  · rw [f 15 (by decide) (by decide), tw 9 (by decide) (by omega)]; exact h.2.2.2
theorem FG.on {zl : Nat → Nat} {w fl : Nat} {SX SM A B : MS} (h : FG SX SM zl) (hw : (w = 1 ∧ fl = 13) ∨ (w = 8 ∧ fl = 14) ∨ (w = 9 ∧ fl = 15)) (tb : gI B 0 27 = (gI SM 0 27 ||| ((1 : Int32) <<< (nI w &&& 31)))) (o : gI A 48 fl = 1) (f : ∀ j, 13 ≤ j → j ≤ 15 → j ≠ fl → gI A 48 j = gI SX 48 j) : FG A B zl := by
  have w32 : w < 32 := by omega
  have tw : ∀ w', w' < 32 → w' ≠ w → (tbit B w' ↔ tbit SM w') := fun w' h1 h2 => by
    rw [tbit_set h1 w32 tb]; exact ⟨fun q => q.resolve_right h2, Or.inl⟩
  have ty : tbit B w := (tbit_set w32 w32 tb).mpr (Or.inr rfl)
  have cs : ∀ w' j', ((w' = 1 ∧ j' = 13) ∨ (w' = 8 ∧ j' = 14) ∨ (w' = 9 ∧ j' = 15)) → (gI SX 48 j' = 0 ↔ ¬ tbit SM w') → (gI A 48 j' = 0 ↔ ¬ tbit B w') := fun w' j' e1 e2 => by
    by_cases c : w' = w
    · have c2 : j' = fl := by omega
      rw [c, c2, o]
      exact ⟨fun q => absurd q (by decide), fun q => absurd ty q⟩
    · rw [f j' (by omega) (by omega) (by omega), tw w' (by omega) c]; exact e2
  exact ⟨fun k hk => (tw _ (by omega) (by omega)).trans (h.1 k hk), cs 1 13 (by decide) h.2.1, cs 8 14 (by decide) h.2.2.1, cs 9 15 (by decide) h.2.2.2⟩
theorem line_fin {t n u g ln : Nat} {bt : Nat → Nat} {SX SM A B : MS} (h0 : bt 1000 = 0) (hu : isT u) (hj : JJ t n (rbt bt g) A B) (fx : QFX u SX A) (fm : Fr QFM SM B) (hx : gI A 48 18 = nI ln) (hm : gI B 0 28 = nI ln)
    (hb : gI A 48 16 = 0 → ∃ (r c hr hc nw : Nat) (kq : Nat → Nat) (cl sd kn : Nat) (zl : Nat → Nat), BC u A B r c hr hc nw kq cl sd kn zl ln ∧ FG A B zl ∧ (hr < r ∧ hc < c)) :
    ∃ SX1 SM1, fX5_readLine_150 48 A = some SX1 ∧ fX11_line_596 0 B = some SM1 ∧ LNo t n bt u g (ln + 1) SX SM SX1 SM1 := by
  obtain ⟨C, D, c1, c2, c3, c4, c5, c6, c7⟩ := j_end hu hj hx hm
  refine ⟨C, D, c1, c2, ?_, fx.tr (QFX.of c4 EX_PD), fm.tr (c5.mo EM_Q)⟩
  rcases c3 with ⟨a, e, j⟩ | j
  · obtain ⟨z1, z2⟩ := c7 j.2.2.1
    obtain ⟨r, c, hr, hc, nw, kq, cl, sd, kn, zl, b1, b2, b3⟩ := hb z1
    exact Or.inr ⟨a, e, r, c, hr, hc, nw, kq, cl, sd, kn, zl, (j.br h0).1, (j.br h0).2, b3, b1.en hu c4 c5 c6 z2, b2.fr c4 c5 (fun j h1 h2 hp => by unfold EX NY at hp; omega) (fun hp => by unfold EM NN at hp; omega)⟩
  · exact Or.inl j.br
theorem line_bad {t n u g ln : Nat} {bt : Nat → Nat} {SX SM : MS} (h : ∃ SX1 SM1, fX5_readLine 48 SX = some SX1 ∧ fX11_line 0 SM = some SM1 ∧ JF t n bt SX1 SM1 ∧ Fr (PD u) SX SX1 ∧ Fr NN SM SM1) : ∃ SX1 SM1, fX5_readLine 48 SX = some SX1 ∧ fX11_line 0 SM = some SM1 ∧ LNo t n bt u g ln SX SM SX1 SM1 := by
  obtain ⟨SX1, SM1, z1, z2, z3, z4, z5⟩ := h
  exact ⟨SX1, SM1, z1, z2, Or.inl z3, QFX.of z4 (fun _ _ q => q), z5.mo NN_Q⟩
theorem line_t4 {t n u a e r c hr hc nw cl sd kn ln : Nat} {bt kq zl : Nat → Nat} {SX SM : MS} (h : JO t n bt a e SX SM) (h0 : bt 1000 = 0) (hu : isT u) (hb : BD u SX SM r c hr hc nw kq cl sd kn zl ln) (hx : hr < r ∧ hc < c ∧ (ln = 0 → hr = 0 ∧ hc = 0)) (hk : gI SX 48 5 = 24) : ∃ SX1 SM1, fX5_readLine 48 SX = some SX1 ∧ fX11_line 0 SM = some SM1 ∧ LNo t n bt u e (ln + 1) SX SM SX1 SM1 := by
  have hD := hb.1.2.2.2.1 1 (by decide)
  have hT : TBL SX (u + 5) 4 4 (kq 1) := hb.tbl (q := 1) hu h.1 (by decide)
  have hxc : gI SX (u + 5) 3 = nI (kq 1) := hD.2.1
  have hm : gI SM 2 19 = nI (kq 1) := hD.2.2.1
  have hle : kq 1 ≤ 4 := hD.1
  by_cases cf : kq 1 = 4
  · exact line_bad (line_full4 h hu hb.xd hk (by rw [hxc, cf]) (by rw [hm, cf]))
  · have hlt : kq 1 < 4 := by omega
    obtain ⟨q1, q2⟩ := (h.2.2.2.2.2.2.2.2.2.2.wrd (j := 4) (by decide)).mp hk
    obtain ⟨A, B, a1, e1, c1, c2, c3, c4, c5, c6, c7⟩ := j_word (u := u) (w := 4) h (by decide)
    have b1 := hb.1.wd hu c4 c5
    have hu' := hu
    unfold isT at hu'
    have hT1 : TBL A (u + 5) 4 4 (kq 1) := hT.fr c4 (fun j hp => by unfold NX at hp; omega)
    obtain ⟨C, D, d1, d2, d3, d4, d5, d6, d7⟩ := L_lamp hu c3 hT1 b1.1 (b1.2.2.2.1 1 (by decide)) hlt
    have b0 : mB 1 = 7 := rfl
    have eX : fX5_readLine 48 SX = fX5_readLine_150 48 C := by rw [X_line_4 hk, X_take_4 h.1 hu hb.1.1.1 hT hlt, c1, Option.bind_some, d1, Option.bind_some]
    have eM : fX11_line 0 SM = fX11_line_596 0 D := by rw [M_line_go h.2.1.1 q1 q2 (by decide) (fun q => absurd q (by decide)) (fun q => absurd q (by decide)), M_42_table h.2.1.1 q1 q2 (by decide) (by decide) hm (by omega), if_neg (show ¬ kq 1 = fullM 4 from cf), M_114_4 h.2.2.2.1, c2, Option.bind_some, d2]
    rw [eX, eM]
    have b27 : gI D 0 27 = _ := (d5.2 0 27 (fun hp => by unfold LFM NN at hp; omega)).trans c7
    exact line_fin h0 hu d3 ((QFX.of c4 NX_PD).tr (QFX.of d4 (LFX_PD (by decide)))) ((c5.mo NM_Q).tr (d5.mo (LFM_Q (q := 1) (by decide)))) ((d4.2 _ _ (fun hp => by unfold LFX NY at hp; omega)).trans b1.2.2.2.2.2.2.2.2.2.1) ((d5.2 _ _ (fun hp => by unfold LFM NN at hp; omega)).trans b1.2.2.2.2.2.2.2.2.2.2) (fun z => ⟨r, c, hr, hc, nw, _, cl, sd, kn, zl, b1.t1 hu d4 d5 (d6 z), hb.2.kp (w := 4) (by decide) (by decide) b27 (fun j h1 h2 => by rw [d4.2 _ _ (fun hp => by unfold LFX NY at hp; omega), c4.2 _ _ (fun hp => by unfold NX at hp; omega)]), hx.1, hx.2.1⟩)
theorem line_t5 {t n u a e r c hr hc nw cl sd kn ln : Nat} {bt kq zl : Nat → Nat} {SX SM : MS} (h : JO t n bt a e SX SM) (h0 : bt 1000 = 0) (hu : isT u) (hb : BD u SX SM r c hr hc nw kq cl sd kn zl ln) (hx : hr < r ∧ hc < c ∧ (ln = 0 → hr = 0 ∧ hc = 0)) (hk : gI SX 48 5 = 25) : ∃ SX1 SM1, fX5_readLine 48 SX = some SX1 ∧ fX11_line 0 SM = some SM1 ∧ LNo t n bt u e (ln + 1) SX SM SX1 SM1 := by
  have hD := hb.1.2.2.2.1 2 (by decide)
  have hT : TBL SX (u + 7) 12 2 (kq 2) := hb.tbl (q := 2) hu h.1 (by decide)
  have hxc : gI SX (u + 7) 3 = nI (kq 2) := hD.2.1
  have hm : gI SM 2 20 = nI (kq 2) := hD.2.2.1
  have hle : kq 2 ≤ 12 := hD.1
  by_cases cf : kq 2 = 12
  · exact line_bad (line_full5 h hu hb.xd hk (by rw [hxc, cf]) (by rw [hm, cf]))
  · have hlt : kq 2 < 12 := by omega
    obtain ⟨q1, q2⟩ := (h.2.2.2.2.2.2.2.2.2.2.wrd (j := 5) (by decide)).mp hk
    obtain ⟨A, B, a1, e1, c1, c2, c3, c4, c5, c6, c7⟩ := j_word (u := u) (w := 5) h (by decide)
    have b1 := hb.1.wd hu c4 c5
    have hu' := hu
    unfold isT at hu'
    have hT1 : TBL A (u + 7) 12 2 (kq 2) := hT.fr c4 (fun j hp => by unfold NX at hp; omega)
    obtain ⟨C, D, d1, d2, d3, d4, d5, d6, d7⟩ := L_step hu c3 hT1 b1.1 (b1.2.2.2.1 2 (by decide)) hlt
    have b0 : mB 2 = 11 := rfl
    have eX : fX5_readLine 48 SX = fX5_readLine_150 48 C := by rw [X_line_5 hk, X_take_5 h.1 hu hb.1.1.1 hT hlt, c1, Option.bind_some, d1, Option.bind_some]
    have eM : fX11_line 0 SM = fX11_line_596 0 D := by rw [M_line_go h.2.1.1 q1 q2 (by decide) (fun q => absurd q (by decide)) (fun q => absurd q (by decide)), M_42_table h.2.1.1 q1 q2 (by decide) (by decide) hm (by omega), if_neg (show ¬ kq 2 = fullM 5 from cf), M_114_5 h.2.2.2.1, c2, Option.bind_some, d2]
    rw [eX, eM]
    have b27 : gI D 0 27 = _ := (d5.2 0 27 (fun hp => by unfold LFM NN at hp; omega)).trans c7
    exact line_fin h0 hu d3 ((QFX.of c4 NX_PD).tr (QFX.of d4 (LFX_PD (by decide)))) ((c5.mo NM_Q).tr (d5.mo (LFM_Q (q := 2) (by decide)))) ((d4.2 _ _ (fun hp => by unfold LFX NY at hp; omega)).trans b1.2.2.2.2.2.2.2.2.2.1) ((d5.2 _ _ (fun hp => by unfold LFM NN at hp; omega)).trans b1.2.2.2.2.2.2.2.2.2.2) (fun z => ⟨r, c, hr, hc, nw, _, cl, sd, kn, zl, b1.t2 hu d4 d5 (d6 z), hb.2.kp (w := 5) (by decide) (by decide) b27 (fun j h1 h2 => by rw [d4.2 _ _ (fun hp => by unfold LFX NY at hp; omega), c4.2 _ _ (fun hp => by unfold NX at hp; omega)]), hx.1, hx.2.1⟩)
theorem line_t6 {t n u a e r c hr hc nw cl sd kn ln : Nat} {bt kq zl : Nat → Nat} {SX SM : MS} (h : JO t n bt a e SX SM) (h0 : bt 1000 = 0) (hu : isT u) (hb : BD u SX SM r c hr hc nw kq cl sd kn zl ln) (hx : hr < r ∧ hc < c ∧ (ln = 0 → hr = 0 ∧ hc = 0)) (hk : gI SX 48 5 = 26) : ∃ SX1 SM1, fX5_readLine 48 SX = some SX1 ∧ fX11_line 0 SM = some SM1 ∧ LNo t n bt u e (ln + 1) SX SM SX1 SM1 := by
  have hD := hb.1.2.2.2.1 3 (by decide)
  have hT : TBL SX (u + 9) 8 5 (kq 3) := hb.tbl (q := 3) hu h.1 (by decide)
  have hxc : gI SX (u + 9) 3 = nI (kq 3) := hD.2.1
  have hm : gI SM 2 21 = nI (kq 3) := hD.2.2.1
  have hle : kq 3 ≤ 8 := hD.1
  by_cases cf : kq 3 = 8
  · exact line_bad (line_full6 h hu hb.xd hk (by rw [hxc, cf]) (by rw [hm, cf]))
  · have hlt : kq 3 < 8 := by omega
    obtain ⟨q1, q2⟩ := (h.2.2.2.2.2.2.2.2.2.2.wrd (j := 6) (by decide)).mp hk
    obtain ⟨A, B, a1, e1, c1, c2, c3, c4, c5, c6, c7⟩ := j_word (u := u) (w := 6) h (by decide)
    have b1 := hb.1.wd hu c4 c5
    have hu' := hu
    unfold isT at hu'
    have hT1 : TBL A (u + 9) 8 5 (kq 3) := hT.fr c4 (fun j hp => by unfold NX at hp; omega)
    obtain ⟨C, D, d1, d2, d3, d4, d5, d6, d7⟩ := L_doing hu c3 hT1 b1.1 (b1.2.2.2.1 3 (by decide)) hlt
    have b0 : mB 3 = 13 := rfl
    have eX : fX5_readLine 48 SX = fX5_readLine_150 48 C := by rw [X_line_6 hk, X_take_6 h.1 hu hb.1.1.1 hT hlt, c1, Option.bind_some, d1, Option.bind_some]
    have eM : fX11_line 0 SM = fX11_line_596 0 D := by rw [M_line_go h.2.1.1 q1 q2 (by decide) (fun q => absurd q (by decide)) (fun q => absurd q (by decide)), M_42_table h.2.1.1 q1 q2 (by decide) (by decide) hm (by omega), if_neg (show ¬ kq 3 = fullM 6 from cf), M_114_6 h.2.2.2.1, c2, Option.bind_some, d2]
    rw [eX, eM]
    have b27 : gI D 0 27 = _ := (d5.2 0 27 (fun hp => by unfold LFM NN at hp; omega)).trans c7
    exact line_fin h0 hu d3 ((QFX.of c4 NX_PD).tr (QFX.of d4 (LFX_PD (by decide)))) ((c5.mo NM_Q).tr (d5.mo (LFM_Q (q := 3) (by decide)))) ((d4.2 _ _ (fun hp => by unfold LFX NY at hp; omega)).trans b1.2.2.2.2.2.2.2.2.2.1) ((d5.2 _ _ (fun hp => by unfold LFM NN at hp; omega)).trans b1.2.2.2.2.2.2.2.2.2.2) (fun z => ⟨r, c, hr, hc, nw, _, cl, sd, kn, zl, b1.t3 hu d4 d5 (d6 z), hb.2.kp (w := 6) (by decide) (by decide) b27 (fun j h1 h2 => by rw [d4.2 _ _ (fun hp => by unfold LFX NY at hp; omega), c4.2 _ _ (fun hp => by unfold NX at hp; omega)]), hx.1, hx.2.1⟩)
theorem line_t7 {t n u a e r c hr hc nw cl sd kn ln : Nat} {bt kq zl : Nat → Nat} {SX SM : MS} (h : JO t n bt a e SX SM) (h0 : bt 1000 = 0) (hu : isT u) (hb : BD u SX SM r c hr hc nw kq cl sd kn zl ln) (hx : hr < r ∧ hc < c ∧ (ln = 0 → hr = 0 ∧ hc = 0)) (hk : gI SX 48 5 = 27) : ∃ SX1 SM1, fX5_readLine 48 SX = some SX1 ∧ fX11_line 0 SM = some SM1 ∧ LNo t n bt u e (ln + 1) SX SM SX1 SM1 := by
  have hD := hb.1.2.2.2.1 4 (by decide)
  have hT : TBL SX (u + 11) 4 3 (kq 4) := hb.tbl (q := 4) hu h.1 (by decide)
  have hxc : gI SX (u + 11) 3 = nI (kq 4) := hD.2.1
  have hm : gI SM 2 22 = nI (kq 4) := hD.2.2.1
  have hle : kq 4 ≤ 4 := hD.1
  by_cases cf : kq 4 = 4
  · exact line_bad (line_full7 h hu hb.xd hk (by rw [hxc, cf]) (by rw [hm, cf]))
  · have hlt : kq 4 < 4 := by omega
    obtain ⟨q1, q2⟩ := (h.2.2.2.2.2.2.2.2.2.2.wrd (j := 7) (by decide)).mp hk
    obtain ⟨A, B, a1, e1, c1, c2, c3, c4, c5, c6, c7⟩ := j_word (u := u) (w := 7) h (by decide)
    have b1 := hb.1.wd hu c4 c5
    have hu' := hu
    unfold isT at hu'
    have hT1 : TBL A (u + 11) 4 3 (kq 4) := hT.fr c4 (fun j hp => by unfold NX at hp; omega)
    obtain ⟨C, D, d1, d2, d3, d4, d5, d6, d7⟩ := L_man hu c3 hT1 b1.1 (b1.2.2.2.1 4 (by decide)) hlt
    have b0 : mB 4 = 18 := rfl
    have eX : fX5_readLine 48 SX = fX5_readLine_150 48 C := by rw [X_line_7 hk, X_take_7 h.1 hu hb.1.1.1 hT hlt, c1, Option.bind_some, d1, Option.bind_some]
    have eM : fX11_line 0 SM = fX11_line_596 0 D := by rw [M_line_go h.2.1.1 q1 q2 (by decide) (fun q => absurd q (by decide)) (fun q => absurd q (by decide)), M_42_table h.2.1.1 q1 q2 (by decide) (by decide) hm (by omega), if_neg (show ¬ kq 4 = fullM 7 from cf), M_114_7 h.2.2.2.1, c2, Option.bind_some, d2]
    rw [eX, eM]
    have b27 : gI D 0 27 = _ := (d5.2 0 27 (fun hp => by unfold LFM NN at hp; omega)).trans c7
    exact line_fin h0 hu d3 ((QFX.of c4 NX_PD).tr (QFX.of d4 (LFX_PD (by decide)))) ((c5.mo NM_Q).tr (d5.mo (LFM_Q (q := 4) (by decide)))) ((d4.2 _ _ (fun hp => by unfold LFX NY at hp; omega)).trans b1.2.2.2.2.2.2.2.2.2.1) ((d5.2 _ _ (fun hp => by unfold LFM NN at hp; omega)).trans b1.2.2.2.2.2.2.2.2.2.2) (fun z => ⟨r, c, hr, hc, nw, _, cl, sd, kn, zl, b1.t4 hu d4 d5 (d6 z), hb.2.kp (w := 7) (by decide) (by decide) b27 (fun j h1 h2 => by rw [d4.2 _ _ (fun hp => by unfold LFX NY at hp; omega), c4.2 _ _ (fun hp => by unfold NX at hp; omega)]), hx.1, hx.2.1⟩)
theorem line_t3 {t n u a e r c hr hc nw cl sd kn ln : Nat} {bt kq zl : Nat → Nat} {SX SM : MS} (h : JO t n bt a e SX SM) (h0 : bt 1000 = 0) (hu : isT u) (hb : BD u SX SM r c hr hc nw kq cl sd kn zl ln) (hx : hr < r ∧ hc < c ∧ (ln = 0 → hr = 0 ∧ hc = 0)) (hk : gI SX 48 5 = 23) : ∃ SX1 SM1, fX5_readLine 48 SX = some SX1 ∧ fX11_line 0 SM = some SM1 ∧ LNo t n bt u e (ln + 1) SX SM SX1 SM1 := by
  have hD := hb.1.2.2.2.1 0 (by decide)
  have hT : TBL SX (u + 3) 6 3 (kq 0) := hb.tbl (q := 0) hu h.1 (by decide)
  have hxc : gI SX (u + 3) 3 = nI (kq 0) := hD.2.1
  have hm : gI SM 2 18 = nI (kq 0) := hD.2.2.1
  have hle : kq 0 ≤ 6 := hD.1
  by_cases cf : kq 0 = 6
  · exact line_bad (line_full3 h hu hb.xd hk (by rw [hxc, cf]) (by rw [hm, cf]))
  · have hlt : kq 0 < 6 := by omega
    obtain ⟨q1, q2⟩ := (h.2.2.2.2.2.2.2.2.2.2.wrd (j := 3) (by decide)).mp hk
    obtain ⟨A, B, a1, e1, c1, c2, c3, c4, c5, c6, c7⟩ := j_word (u := u) (w := 3) h (by decide)
    have b1 := hb.1.wd hu c4 c5
    have hu' := hu
    unfold isT at hu'
    have hT1 : TBL A (u + 3) 6 3 (kq 0) := hT.fr c4 (fun j hp => by unfold NX at hp; omega)
    obtain ⟨C, D, d1, d2, d3, d4, d5, d6, d7⟩ := L_sun hu c3 hT1 (b1.2.2.2.1 0 (by decide)) hlt b1.2.2.2.2.1
    have b0 : mB 0 = 4 := rfl
    have eX : fX5_readLine 48 SX = fX5_readLine_150 48 C := by rw [X_line_3 hk, X_take_3 h.1 hu hb.1.1.1 hT hlt, c1, Option.bind_some, d1, Option.bind_some]
    have eM : fX11_line 0 SM = fX11_line_596 0 D := by rw [M_line_go h.2.1.1 q1 q2 (by decide) (fun q => absurd q (by decide)) (fun q => absurd q (by decide)), M_42_table h.2.1.1 q1 q2 (by decide) (by decide) hm (by omega), if_neg (show ¬ kq 0 = fullM 3 from cf), M_114_3 h.2.2.2.1, c2, Option.bind_some, d2, Option.bind_some]
    rw [eX, eM]
    have b27 : gI D 0 27 = _ := (d5.2 0 27 (fun hp => by unfold LFS LFM NN at hp; omega)).trans c7
    exact line_fin h0 hu d3 ((QFX.of c4 NX_PD).tr (QFX.of d4 (LFX_PD (by decide)))) ((c5.mo NM_Q).tr (d5.mo LFS_Q)) ((d4.2 _ _ (fun hp => by unfold LFX NY at hp; omega)).trans b1.2.2.2.2.2.2.2.2.2.1) ((d5.2 _ _ (fun hp => by unfold LFS LFM NN at hp; omega)).trans b1.2.2.2.2.2.2.2.2.2.2) (fun z => ⟨r, c, hr, hc, nw, _, cl, sd, kn, zl, b1.t0 hu d4 d5 (d6 z).1 (d6 z).2, hb.2.kp (w := 3) (by decide) (by decide) b27 (fun j h1 h2 => by rw [d4.2 _ _ (fun hp => by unfold LFX NY at hp; omega), c4.2 _ _ (fun hp => by unfold NX at hp; omega)]), hx.1, hx.2.1⟩)
