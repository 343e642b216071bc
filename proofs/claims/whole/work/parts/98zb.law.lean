/-! ===== a law's line, taken or not ===== -/
def LLM (b k o j : Nat) : Prop := PMl b o j ∨ (o = 0 ∧ j = 27) ∨ ((o = 21 ∨ o = 22) ∧ j = 3 + k)
theorem LLM_Q {b k : Nat} : ∀ o j, LLM b k o j → QFM o j := fun o j h => by
  rcases h with (h | ⟨rfl, h⟩ | ⟨rfl, rfl⟩ | ⟨h, h'⟩) | ⟨rfl, rfl⟩ | ⟨h, h'⟩
  · exact NN_Q o j h
  · exact Q0 (by omega)
  · exact Q2 (by decide)
  · exact Or.inr (Or.inr (Or.inr (Or.inr (Or.inr (Or.inr (Or.inr (Or.inr (Or.inr ⟨h, by omega⟩))))))))
  · exact Q0 (by decide)
  · exact Or.inr (Or.inr (Or.inr (Or.inr (Or.inr (Or.inr (Or.inr (Or.inr (Or.inl ⟨h, by omega⟩))))))))
theorem PLw_PD {u k : Nat} (hk : k < 3) : ∀ o j, PLw u (u + 14 + 3 * k) o j → PD u o j := fun o j h => by
  rcases h with ⟨rfl, h⟩ | rfl | ⟨rfl, rfl⟩ | ⟨rfl, rfl⟩ | rfl
  · exact PD48 (by omega)
  · exact Or.inr (Or.inl rfl)
  · exact PDu (by decide)
  · exact Or.inr (Or.inr (Or.inr (Or.inr (Or.inr ⟨by omega, by omega⟩))))
  · exact Or.inr (Or.inr (Or.inr (Or.inr (Or.inr ⟨by omega, by omega⟩))))
theorem QFX.p10 {u v : Nat} {S : MS} : QFX u S (pR S 48 10 v) := ⟨fun o j h => by rw [gR_pR, if_neg h], fun o j _ => gI_pR⟩
theorem BC.p10 {u r c hr hc nw cl sd kn ln v : Nat} {kq zl : Nat → Nat} {SX SM : MS} (h : BC u SX SM r c hr hc nw kq cl sd kn zl ln) : BC u (pR SX 48 10 v) SM r c hr hc nw kq cl sd kn zl ln := by
  obtain ⟨h1, h2, h3, h4, h5, h6, h7, h8, h9, h10⟩ := h
  exact ⟨⟨by rw [gR_pR, if_neg (by decide)]; exact h1.1, h1.2⟩, h2, h3, h4, h5, h6, h7, h8, h9, h10⟩
theorem BC.lw {u r c hr hc nw cl sd kn ln k kn1 z : Nat} {kq zl : Nat → Nat} {SX SM A B : MS} (h : BC u SX SM r c hr hc nw kq cl sd kn zl ln) (hu : isT u) (hk : k < 3) (f : Fr (PLw u (u + 14 + 3 * k)) SX A) (g : Fr (LLM kn k) SM B) (n1 : KN u A B kn1) (n2 : LW u k A B kn1 z) (hkn : kn ≤ kn1) : BC u A B r c hr hc nw kq cl sd kn1 (fun i => if i = k then z else zl i) ln := by
  obtain ⟨h1, h2, h3, h4, h5, h6, h7, h8, h9, h10⟩ := h
  unfold isT at hu
  refine ⟨?_, ?_, ?_, ?_, ?_, ?_, ?_, n1, ?_, ?_⟩
  · exact h1.fr f g (fun hp => by unfold PLw at hp; omega) (fun hp => by unfold PLw at hp; omega) (fun hp => by unfold LLM PMl NN at hp; omega) (fun hp => by unfold LLM PMl NN at hp; omega)
  · exact h2.fr f g (fun hp => by unfold PLw at hp; omega) (fun hp => by unfold PLw at hp; omega) (fun hp => by unfold LLM PMl NN at hp; omega) (fun hp => by unfold LLM PMl NN at hp; omega)
  · exact h3.fr f g (fun hp => by unfold PLw at hp; omega) (fun j => (fun hp => by unfold PLw at hp; omega)) (fun hp => by unfold LLM PMl NN at hp; omega) (fun j => (fun hp => by unfold LLM PMl NN at hp; omega))
  · exact fun q hq => (h4 q hq).fr f g (fun hp => by unfold PLw at hp; omega) (fun j => (fun hp => by unfold PLw at hp; omega)) (fun hp => by have := mBq q hq; unfold LLM PMl NN at hp; omega) (fun c j hc => (fun hp => by have := mBq q hq; unfold LLM PMl NN at hp; omega))
  · exact h5.fr g (fun hp => by unfold LLM PMl NN at hp; omega) (fun j => (fun hp => by unfold LLM PMl NN at hp; omega))
  · exact ⟨by rw [f.2 _ _ (fun hp => by unfold PLw at hp; omega)]; exact h6.1, by rw [g.2 _ _ (fun hp => by unfold LLM PMl NN at hp; omega)]; exact h6.2.1, h6.2.2⟩
  · exact ⟨by rw [f.2 _ _ (fun hp => by unfold PLw at hp; omega)]; exact h7.1, by rw [g.2 _ _ (fun hp => by unfold LLM PMl NN at hp; omega)]; exact h7.2.1, h7.2.2⟩
  · intro i hi
    by_cases e : i = k
    · dsimp only
      rw [e, if_pos rfl]; exact n2
    · dsimp only
      rw [if_neg e]
      exact (h9 i hi).fr f g hkn (fun hp => by unfold PLw at hp; omega) (fun j => (fun hp => by unfold PLw at hp; omega)) (fun hp => by unfold LLM PMl NN at hp; omega) (fun hp => by unfold LLM PMl NN at hp; omega) (fun j hj => (fun hp => by unfold LLM PMl NN at hp; omega)) (fun j hj => (fun hp => by unfold LLM PMl NN at hp; omega))
  · exact ⟨by rw [f.2 _ _ (fun hp => by unfold PLw at hp; omega)]; exact h10.1, by rw [g.2 _ _ (fun hp => by unfold LLM PMl NN at hp; omega)]; exact h10.2⟩
theorem JF.nz {t n : Nat} {bt : Nat → Nat} {SX SM : MS} (h : JF t n bt SX SM) : gI SX 48 16 ≠ 0 := by
  obtain ⟨f, w, x, _⟩ := h
  rw [x.2.1]; exact x.2.2.1
theorem HG_ne {O : List Int32} (h : HG O) : O.length ≠ 0 := fun z => by
  have e : O = [] := List.eq_nil_of_length_eq_zero z
  have q := h [] 0
  rw [e] at q
  have q' : (some 0 : Option Nat) = some 1 := q
  exact absurd (Option.some.inj q') (by decide)
theorem wr_back {E B : MS} (h : fX11_wrong 0 1 E = some B) : Fr NN B E := by
  unfold fX11_wrong at h
  by_cases c : gI E 0 34 = 0
  · rw [if_pos c] at h
    have e := Option.some.inj h
    refine ⟨by rw [← e]; rfl, fun o j hn => ?_⟩
    rw [← e]
    by_cases o0 : o = 0
    · subst o0
      unfold NN at hn
      rw [gI_nek (by omega), gI_nek (by omega)]
    · rw [gI_neo o0, gI_neo o0]
  · rw [if_neg c] at h
    rw [Option.some.inj h]; exact Fr.rf
theorem ML.of_w {n : Nat} {bt : Nat → Nat} {E B : MS} (h : fX11_wrong 0 1 E = some B) (m : ML n bt B) : ML n bt E := m.fy (wr_back h)
/-- behind a law that the class refused, the reference fails at the line's end -/
theorem line_596_f {t n u k : Nat} {bt : Nat → Nat} {C E B : MS} {v : Int32} (hu : isT u) (jf : JF t n bt C B) (z : gI E 0 34 = 0) (ns : gI E 0 32 = 3 → gI E 0 33 ≠ 59) (hw : fX11_wrong 0 1 E = some B) :
    ∃ C1 D1, fX5_readLine_150 48 C = some C1 ∧ fX11_line_596 0 (pI E 22 k v) = some D1 ∧ JF t n bt C1 D1 ∧ Fr EX C C1 ∧ Fr EM (pI E 22 k v) D1 := by
  obtain ⟨f, w, x, m, zf, p⟩ := jf
  have mE := ML.of_w hw m
  have mD : ML n bt (pI E 22 k v) := mE.pM (by decide) (fun e => by omega)
  have e0 : ∀ j, gI (pI E 22 k v) 0 j = gI E 0 j := fun j => gI_neo (by decide)
  have eB : gI B 0 34 = 1 ∧ gI B 0 35 = gI E 0 31 := by
    unfold fX11_wrong at hw
    rw [if_pos z] at hw
    have e := Option.some.inj hw
    rw [← e]
    exact ⟨by rw [gI_nek (by decide), gI_same], by rw [gI_same, gI_nek (by decide)]⟩
  obtain ⟨G, g1, g2, g3, g4, g5, _⟩ := M_wrong (f := 1) mD (by rw [e0]; exact z)
  obtain ⟨A, c1, c2, c3⟩ := X_fail_f (g := 1) (v := gI C 48 7) x
  have is0 : fX11_isSign 0 59 (pI E 22 k v) = some 0 := by
    unfold fX11_isSign
    rw [e0, e0, e0, if_pos z]
    by_cases s3 : gI E 0 32 = 3
    · rw [if_pos s3, if_neg (ns s3)]
    · rw [if_neg s3]
  unfold fX5_readLine_150 fX5_expect fX11_line_596 fX11_line_625
  rw [if_neg (by rw [x.2.2.2.2.1]; decide), c1, Option.bind_some, Option.bind_some, if_pos (by rw [e0]; exact z), is0, Option.bind_some, if_pos rfl, g1, Option.bind_some]
  have gX : Fr EX C A := c3.mo (fun o j hp => Or.inl hp)
  have gM : Fr EM (pI E 22 k v) G := g5.mo (fun o j hp => Or.inl hp)
  refine ⟨_, _, rfl, rfl, ⟨f, w, c2.wr hu (PD48 (by decide)) (fun _ => by decide), g2.pM (by decide) (fun _ => by decide), ?_, ?_⟩, gX.pI (Or.inr ⟨rfl, rfl⟩), gM.pI (Or.inr ⟨rfl, rfl⟩)⟩
  · rw [gI_nek (by decide), g3, ← zf, eB.1]
  · rw [gI_nek (by decide), g4, e0, ← eB.2, p]
theorem line_l10 {t n u a e r c hr hc nw cl sd kn ln : Nat} {bt kq zl : Nat → Nat} {SX SM : MS} (h : JO t n bt a e SX SM) (h0 : bt 1000 = 0) (hu : isT u) (hb : BD u SX SM r c hr hc nw kq cl sd kn zl ln) (hx : hr < r ∧ hc < c ∧ (ln = 0 → hr = 0 ∧ hc = 0)) (hk : gI SX 48 5 = 30) : ∃ SX1 SM1, fX5_readLine 48 SX = some SX1 ∧ fX11_line 0 SM = some SM1 ∧ LNo t n bt u e (ln + 1) SX SM SX1 SM1 := by
  obtain ⟨q1, q2⟩ := (h.2.2.2.2.2.2.2.2.2.2.wrd (j := 10) (by decide)).mp hk
  obtain ⟨A, B, a1, e1, c1, c2, c3, c4, c5, c6, c7⟩ := j_word (u := u) (w := 10) h (by decide)
  have b1 := hb.1.wd hu c4 c5
  have hu' := hu
  unfold isT at hu'
  have eX0 : fX5_readLine 48 SX = (lawX A).bind fun q => fX5_readLine_150 48 q := by rw [X_line_10 hk, readLaw_eq, c1, Option.bind_some]
  have eM0 : fX11_line 0 SM = (fX11_lawLine 0 B).bind fun q141 => fX11_line_596 0 q141 := by rw [M_line_go h.2.1.1 q1 q2 (by decide) (fun q => absurd q (by decide)) (fun q => absurd q (by decide)), M_42_free q1 q2 (Or.inr rfl), M_114_10 h.2.2.2.1, c2, Option.bind_some]
  have fA : QFX u SX A := QFX.of c4 NX_PD
  have fB : Fr QFM SM B := c5.mo NM_Q
  have lx := b1.2.2.2.2.2.2.2.2.2.1
  have lm := b1.2.2.2.2.2.2.2.2.2.2
  have tw : ∀ w', w' < 32 → w' ≠ 10 → (tbit B w' ↔ tbit SM w') := fun w' h1 h2 => by
    rw [tbit_set h1 (by decide) c7]; exact ⟨fun q => q.resolve_right h2, Or.inl⟩
  rw [eX0, eM0]
  rcases law_k c3.2.2.2.2.2.2.2.2.2.2 with ⟨k, k3, k5, s0, v0⟩ | ⟨n1, n2⟩
  · have hL := b1.2.2.2.2.2.2.2.2.1 k k3
    have hz := hL.2.1
    have z64 := hL.1
    by_cases z0 : zl k = 0
    · have nb : ¬ tbit B (16 + k) := fun q => (hb.2.1 k k3).mp ((tw _ (by omega) (by omega)).mp q) z0
      obtain ⟨n1, n2, n3, n4, n5, n6⟩ := b1.2.2.2.2.2.2.2.1
      obtain ⟨S, R, C, E, _, fS, fR, g27, g21, d1, d2, d3, d4⟩ := law_new c3 hu b1.1.1 k3 k5 s0 v0 (by rw [hz, z0]; rfl) nb n1 n2 n3 n4 n5
      have fS' : Fr (PLw u (u + 14 + 3 * k)) (pR A 48 10 (u + 14 + 3 * k)) S := fS.mo (fun o j hp => by
        rcases hp with ⟨rfl, h1⟩ | ⟨rfl, h1⟩
        · exact Or.inl ⟨rfl, Or.inl h1⟩
        · exact Or.inl ⟨rfl, by omega⟩)
      have fR' : Fr (LLM kn k) B R := fR.mo (fun o j hp => by
        rcases hp with h1 | h1 | ⟨rfl, rfl⟩
        · exact Or.inl (Or.inl (NM_NN o j h1))
        · exact Or.inr (Or.inl h1)
        · exact Or.inr (Or.inr ⟨Or.inl rfl, rfl⟩))
      have fC : ∀ C1, Fr (PLw u (u + 14 + 3 * k)) S C1 → QFX u SX C1 := fun C1 f => (fA.tr QFX.p10).tr (QFX.of (fS'.tr f) (PLw_PD k3))
      have lC : ∀ C1, Fr (PLw u (u + 14 + 3 * k)) S C1 → gI C1 48 18 = nI ln := fun C1 f => ((fS'.tr f).2 _ _ (fun hp => by unfold PLw at hp; omega)).trans lx
      have fE : ∀ E1 v, Fr (PMl kn) R E1 → Fr (LLM kn k) B (pI E1 22 (3 + k) v) := fun E1 v f => by
        have g : Fr (LLM kn k) B E1 := fR'.tr (f.mo (fun o j hp => Or.inl hp))
        exact g.pI (Or.inr (Or.inr ⟨Or.inr rfl, rfl⟩))
      have lE : ∀ E1, Fr (LLM kn k) B E1 → gI E1 0 28 = nI ln := fun E1 f => (f.2 _ _ (fun hp => by unfold LLM PMl NN at hp; omega)).trans lm
      rw [d1, Option.bind_some]
      rcases d4 with le | ⟨O, a2, e2, kn1, lj, hg, hkn⟩ | ⟨G, y1, y2, y3, le⟩
      · obtain ⟨jf, le2, le3, _⟩ := le
        have mE : MR E := by obtain ⟨_, _, _, m, _⟩ := jf; exact m.1
        rw [d3 mE, Option.bind_some]
        have fD := fE E (gI E 2 25) le3
        exact line_fin h0 hu (JJ.pM (Or.inr jf) (by decide) (fun e => by omega)) (fC C le2) (fB.tr (fD.mo LLM_Q)) (lC C le2) (lE _ fD) (fun z => absurd z jf.nz)
      · have mE : MR E := lj.jo.2.1.1
        rw [d3 mE, Option.bind_some]
        have fD := fE E (gI E 2 25) lj.fm
        have c25 : gI E 2 25 = nI kn1 := by rw [lj.mz, hkn]
        have k64 := lj.k64
        have zO : gI C (u + 14 + 3 * k) 2 = nI O.length := lj.xz
        have eO : ouX C (u + 14 + 3 * k) O.length = O := lj.xo
        have oM : ouM (pI E 22 (3 + k) (gI E 2 25)) kn O.length = O := by
          have : ouM (pI E 22 (3 + k) (gI E 2 25)) kn O.length = ouM E kn O.length := map_rc (fun i _ => by rw [gI_neo (by decide), gI_neo (by decide)])
          rw [this]; exact lj.mo
        have okO : ∀ i, i < O.length → okK (gI (pI E 22 (3 + k) (gI E 2 25)) 23 (64 + (kn + i))) (gI (pI E 22 (3 + k) (gI E 2 25)) 24 (64 + (kn + i))) := fun i hi => by
          rw [gI_neo (by decide), gI_neo (by decide)]; exact lj.ok i hi
        have nK : KN u C (pI E 22 (3 + k) (gI E 2 25)) kn1 := by
          refine ⟨lj.xk, ?_, ?_, k64, ?_, fun i hi => ?_⟩
          · rw [gI_neo (by decide)]; exact lj.mk
          · rw [gI_neo (by decide)]; exact c25
          · rw [gI_neo (by decide)]; exact lj.mp
          · by_cases ci : i < kn
            · rw [fD.2 _ _ (fun hp => by unfold LLM PMl NN at hp; omega), fD.2 _ _ (fun hp => by unfold LLM PMl NN at hp; omega)]
              exact n6 i ci
            · have := okO (i - kn) (by omega)
              rw [show kn + (i - kn) = i by omega] at this
              exact this
        have nL : LW u k C (pI E 22 (3 + k) (gI E 2 25)) kn1 O.length := by
          refine ⟨by omega, zO, kn, ?_, ?_, by omega, by rw [eO, oM], okO, Or.inr (by rw [eO]; exact hg)⟩
          · rw [gI_neo (by decide), lj.fm.2 _ _ (fun hp => by unfold PMl NN at hp; omega)]; exact g21
          · rw [gI_same, c25, hkn]
        have b27 : gI (pI E 22 (3 + k) (gI E 2 25)) 0 27 = (gI B 0 27 ||| ((1 : Int32) <<< (nI (16 + k) &&& 31))) := by rw [gI_neo (by decide), lj.fm.2 _ _ (fun hp => by unfold PMl NN at hp; omega)]; exact g27
        have td : ∀ w', w' < 32 → w' ≠ 10 → w' ≠ 16 + k → (tbit (pI E 22 (3 + k) (gI E 2 25)) w' ↔ tbit SM w') := fun w' h1 h2 h3 => by
          rw [tbit_set h1 (show 16 + k < 32 by omega) b27]
          exact ⟨fun q => (tw w' h1 h2).mp (q.resolve_right h3), fun q => Or.inl ((tw w' h1 h2).mpr q)⟩
        have ty : tbit (pI E 22 (3 + k) (gI E 2 25)) (16 + k) := (tbit_set (show 16 + k < 32 by omega) (show 16 + k < 32 by omega) b27).mpr (Or.inr rfl)
        have f48 : ∀ j, 13 ≤ j → j ≤ 15 → gI C 48 j = gI SX 48 j := fun j h1 h2 => by
          rw [(fS'.tr lj.fx).2 _ _ (fun hp => by unfold PLw at hp; omega), gI_pR, c4.2 _ _ (fun hp => by unfold NX at hp; omega)]
        refine line_fin h0 hu (Or.inl ⟨a2, e2, lj.jo.pM (by decide) (fun e => by omega)⟩) (fC C lj.fx) (fB.tr (fD.mo LLM_Q)) (lC C lj.fx) (lE _ fD) (fun z => ⟨r, c, hr, hc, nw, kq, cl, sd, kn1, _, (b1.p10 (v := u + 14 + 3 * k)).lw hu k3 (fS'.tr lj.fx) fD nK nL (by omega), ⟨?_, ?_, ?_, ?_⟩, hx.1, hx.2.1⟩)
        · intro i hi
          dsimp only
          by_cases e : i = k
          · rw [e, if_pos rfl]; exact ⟨fun _ => HG_ne hg, fun _ => ty⟩
          · rw [if_neg e, td _ (by omega) (by omega) (by omega)]; exact hb.2.1 i hi
        · rw [f48 13 (by decide) (by decide), td 1 (by decide) (by decide) (by omega)]; exact hb.2.2.1
        · rw [f48 14 (by decide) (by decide), td 8 (by decide) (by decide) (by omega)]; exact hb.2.2.2.1
        · rw [f48 15 (by decide) (by decide), td 9 (by decide) (by decide) (by omega)]; exact hb.2.2.2.2
      · obtain ⟨jf, le2, le3, _⟩ := le
        have mE : MR E := (ML.of_w y3 (by obtain ⟨_, _, _, m, _⟩ := jf; exact m)).1
        rw [d3 mE, Option.bind_some]
        obtain ⟨C1, D1, w1, w2, w3, w4, w5⟩ := line_596_f (k := 3 + k) (v := gI E 2 25) hu jf y1 y2 y3
        have gE : Fr (PMl kn) R E := le3.tr (by
          obtain ⟨_, _, _, m, _⟩ := jf
          exact (wr_back y3).mo (fun o j hp => Or.inl hp))
        have fD := fE E (gI E 2 25) gE
        exact ⟨C1, D1, w1, w2, Or.inl w3.br, (fC C le2).tr (QFX.of w4 EX_PD), (fB.tr (fD.mo LLM_Q)).tr (w5.mo EM_Q)⟩
    · have tb : tbit B (16 + k) := (tw _ (by omega) (by omega)).mpr ((hb.2.1 k k3).mpr z0)
      obtain ⟨C, D, d1, d2, d3, d4, d5⟩ := law_told c3 hu b1.1.1 k3 k5 s0 v0 hz z64 z0 tb
      rw [d1, d2, Option.bind_some, Option.bind_some]
      exact line_fin h0 hu (Or.inr d3) ((fA.tr QFX.p10).tr (QFX.of d4 (PLw_PD k3))) (fB.tr (d5.mo NN_Q)) ((d4.2 _ _ (fun hp => by unfold PLw at hp; omega)).trans lx) ((d5.2 _ _ (fun hp => by unfold NN at hp; omega)).trans lm) (fun z => absurd z d3.nz)
  · obtain ⟨C, D, d1, d2, d3, d4, d5⟩ := law_bad c3 n1 n2
    rw [d1, d2, Option.bind_some, Option.bind_some]
    exact line_fin h0 hu (Or.inr d3) (fA.tr (QFX.of d4 NY_PD)) (fB.tr (d5.mo NN_Q)) ((d4.2 _ _ (fun hp => by unfold NY at hp; omega)).trans lx) ((d5.2 _ _ (fun hp => by unfold NN at hp; omega)).trans lm) (fun z => absurd z d3.nz)
