/-! ===== a text that is taken; text ===== -/
theorem kG7 {u : Nat} (hu : isT u) : ∀ q ∈ kXl, ¬ GX7 u q.1 q.2.1 := by
  unfold GX7
  rcases hu with rfl | rfl <;> decide
theorem text_good {t n a e r c hr hc nw cl sd kn ln : Nat} {bt kq zl : Nat → Nat} {T : TT} {SX SM A B A1 B1 : MS} (h : Iv t T SX SM) (x12 : gI A 0 12 = 0) (m2 : gI B 0 2 = 0) (bm : Fr BGM SM B) (qx : QFX (27 - t) A A1) (qm : Fr QFM B B1) (jo : JO t n bt a e A1 B1) (bd : BD (27 - t) A1 B1 r c hr hc nw kq cl sd kn zl ln) (hx : hr < r ∧ hc < c) :
    ∃ qX qM, fX10_text_66 0 A1 = some qX ∧ fX11_text_153 0 B1 = some qM ∧ qX.1 = qM.1 ∧ Inv qX.2 qM.2 := by
  have hR := jo.1.1
  have ht := hR.1
  have h57 := h.1.2.2.2.2.2.1
  generalize hU : 27 - t = u at *
  have hu : isT u := by unfold isT at *; omega
  have hu' := hu
  unfold isT at hu' ht
  obtain ⟨S1, b1, b2, b3⟩ := M_halves jo.2.1.1 jo.2.2.2.1 jo.2.2.2.2.2.2.2.2.1.2.2.2
  generalize hS2 : pI (pI (pI (pI S1 0 66 (0 : Int32)) 0 67 (-1 : Int32)) 0 55 (0 : Int32)) 0 56 (0 : Int32) = S2
  have n2 : ∀ o j, o ≠ 0 → gI S2 o j = gI S1 o j := fun o j ho => by rw [← hS2, gI_neo ho, gI_neo ho, gI_neo ho, gI_neo ho]
  have im : ∀ o, 2 ≤ o → o < 25 → ∀ j, j < hf o → gI S2 o j = gI B1 o (hf o + j) := fun o o1 o2 j hj => by
    rw [n2 o j (by omega), b3 o o1 (by omega) j hj, gI_neo (by omega), gI_neo (by omega)]
  have rS2 : MR S2 := by rw [← hS2]; exact (jo.2.1.1.of (b2.1.trans rfl)).of rfl
  obtain ⟨S3, d1, d2, d3⟩ := M_starts (a := 0) rS2 (by decide)
  have d1' : fX11_starts 0 (0 : Int32) S2 = some S3 := d1
  have eM : fX11_text_153 0 B1 = some (gI S3 0 28, S3) := by
    rw [b1, hS2]
    unfold fX11_begins
    rw [d1', Option.bind_some, Option.bind_some]
  have z0 : ∀ j, (j < 36 ∨ 37 < j) → j ≠ 55 → j ≠ 56 → j ≠ 66 → j ≠ 67 → gI S3 0 j = gI B1 0 j := fun j h1 h2 h3 h4 h5 => by
    rw [d3.2 _ _ (fun hp => by unfold PMw at hp; omega), ← hS2, gI_nek h3, gI_nek h2, gI_nek h5, gI_nek h4, b2.2 _ _ (fun hp => by omega), gI_nek (by omega), gI_nek (by omega)]
  have hT := bd.tbl (q := 0) hu jo.1 (by decide)
  obtain ⟨A4, A7, e1, e2, e3, e4, e5, e6, e7, e8, e9, e10, e11, e12, e13⟩ := X_good (hr := fun i => gI S2 4 i) hU hR jo.2.2.1 jo.2.2.2.2.2.2.2.2.1.2.2.1 hT (fun i hi => by
    obtain ⟨x, x1, x2, _, x3⟩ := tk_row bd.1 im (q := 0) (j := 0) (by decide) hi (by decide)
    have x4 : x ≤ 23 := x3
    exact ⟨x, by omega, x1, x2⟩)
  have te : tX A4 u = tM S2 := told_eq hu bd.1 e2 im e3
  obtain ⟨k1, k2, k3, k4, k5⟩ := told_ok bd.1 hx im
  have t3 : tM S3 = tM S2 := Fr.toldM d3 (fun o j a b hc => by unfold PMw at hc; omega)
  have mo3 : MO S3 := MO.of ⟨rS2, k3, k4⟩ d3.1 (fun o j a b => d3.2 _ _ (fun hp => by unfold PMw at hp; omega))
  have zk : ∀ k, k < 3 → gI A7 (u + 14 + 3 * k) 2 = nI (zl k) ∧ zl k ≤ 64 := fun k hk => by
    have l := bd.1.2.2.2.2.2.2.2.2.1 k hk
    rw [e6 _ _ (fun hp => by unfold GX7 at hp; omega)]
    exact ⟨l.2.1, l.1⟩
  have pz : ∀ k, k < 3 → (0 : Int32) ≤ gI A7 (u + 14 + 3 * k) 2 := fun k hk => by
    rw [(zk k hk).1]; exact nI_pos' (by have := (zk k hk).2; omega)
  obtain ⟨s0, s1, s2, s3, _⟩ := tk_sc bd.1 im
  have w0 : wM S3 0 = begW (tM S2) (sc (tM S2) 10) (sc (tM S2) 11) := d2
  have x7 : wX A7 87 = wM S3 0 := by
    rw [e7, te, w0, bd.1.2.1.1, bd.1.2.1.2.2.2.1]
    have q10 : sc (tM S2) 10 = nI hr := s2
    have q11 : sc (tM S2) 11 = nI hc := s3
    rw [q10, q11]
  have gX : gI A7 48 18 = nI ln := by rw [e6 _ _ (fun hp => by unfold GX7 at hp; omega)]; exact bd.1.2.2.2.2.2.2.2.2.2.1
  have gM : gI S3 0 28 = nI ln := by rw [z0 28 (by decide) (by decide) (by decide) (by decide) (by decide)]; exact bd.1.2.2.2.2.2.2.2.2.2.2
  refine ⟨_, _, e1, eM, gX.trans gM.symm, u, tM S2, ⟨⟨e4, fun q hq => (e6 _ _ (kG7 hu q hq)).trans (jo.1.2.1 q hq), pz 0 (by decide), pz 1 (by decide), pz 2 (by decide)⟩, mo3, e5.trans te, t3, k1, ?_, k2⟩, ⟨x7, ?_, ?_⟩, ⟨false, e10, ?_, fun q => absurd q (by decide)⟩, ⟨0, by decide, e11, ?_, fun k hk => absurd hk (Nat.not_lt_zero _)⟩, ⟨0, by decide, e12, ?_, ?_, ?_, fun k hk => absurd hk (Nat.not_lt_zero _)⟩, ⟨0, by decide, ?_, ?_, fun k hk => absurd hk (Nat.not_lt_zero _)⟩, ?_, ?_⟩
  · show gI S3 0 57 = 0
    rw [z0 57 (by decide) (by decide) (by decide) (by decide) (by decide), qm.2 _ _ (fun hp => by unfold QFM at hp; omega), bm.2 _ _ (fun hp => by unfold BGM QFM at hp; omega)]
    exact h57
  · show WOK (tM S2) (wM S3 0)
    rw [w0]; exact beg_ok k1 k5
  · show wM S3 0 3 ≤ 9900
    rw [w0]
    show (0 : Int32) ≤ 9900
    decide
  · show gI S3 0 55 = 0
    rw [d3.2 _ _ (fun hp => by unfold PMw at hp; omega), ← hS2, gI_nek (by decide), gI_same]
  · show gI S3 0 56 = 0
    rw [d3.2 _ _ (fun hp => by unfold PMw at hp; omega), ← hS2, gI_same]
  · show gI S3 0 66 = 0
    rw [d3.2 _ _ (fun hp => by unfold PMw at hp; omega), ← hS2, gI_nek (by decide), gI_nek (by decide), gI_nek (by decide), gI_same]
  · show gI A7 83 2 = gI S3 0 67
    rw [e13, d3.2 _ _ (fun hp => by unfold PMw at hp; omega), ← hS2, gI_nek (by decide), gI_nek (by decide), gI_same]
  · left
    show gI S3 0 67 = -1
    rw [d3.2 _ _ (fun hp => by unfold PMw at hp; omega), ← hS2, gI_nek (by decide), gI_nek (by decide), gI_same]
  · show gI A7 0 12 = 0
    rw [e6 _ _ (fun hp => by unfold GX7 at hp; omega), qx.2 _ _ (fun hp => by unfold PD at hp; omega)]
    exact x12
  · show gI S3 0 2 = 0
    rw [z0 2 (by decide) (by decide) (by decide) (by decide) (by decide), qm.2 _ _ (fun hp => by unfold QFM at hp; omega)]
    exact m2
  · show gI A7 0 13 = gI S3 0 36
    rw [e8, d3.2 _ _ (fun hp => by unfold PMw at hp; omega), ← hS2, gI_nek (by decide), gI_nek (by decide), gI_nek (by decide), gI_nek (by decide), b2.2 _ _ (fun hp => by omega), gI_nek (by decide), gI_same]
  · show gI A7 0 14 = gI S3 0 37
    rw [e9, d3.2 _ _ (fun hp => by unfold PMw at hp; omega), ← hS2, gI_nek (by decide), gI_nek (by decide), gI_nek (by decide), gI_nek (by decide), b2.2 _ _ (fun hp => by omega), gI_same]
theorem sim_1 : Sim_1 Inv := by
  intro SX SM z0 ⟨t, T, h⟩
  obtain ⟨nt, n7, t1, t2, t3⟩ := h.2.2.2.2.2.1
  have hiv : Inv SX (pI SM 0 0 0) := ⟨t, T, h.th⟩
  by_cases c0 : z0 < 0
  · refine ⟨((-2 : Int32), SX), ((-2 : Int32), pI SM 0 0 0), ?_, ?_, ?_, ?_⟩
    · unfold fX10_text; rw [if_pos c0]
    · unfold fX11_text; rw [if_pos c0]
    · rfl
    · exact hiv
  · by_cases c1 : z0 ≤ nI nt
    · obtain ⟨n, hn, rfl⟩ := nI_of c0
      have n1 : n ≤ nt := (nI_leI hn (by omega)).mp c1
      obtain ⟨A, B, a, e, a1, a2, jo, bd, bx, bm, x12, m2⟩ := text_first h.1.1.1 h.1.1.2.1 h.1.2.1.1 n1 n7 t1 t2 t3
      have hu : isT (27 - t) := by have := h.1.1.1.1; unfold isT at *; omega
      obtain ⟨A1, B1, ln1, b1, b2, b3, b4, b5⟩ := text_loop btM0 hu 1000 0 a e 5 5 0 0 0 (fun _ => 0) 0 0 0 (fun _ => 0) A B (by omega) (Nat.zero_le _) jo bd ⟨by decide, by decide, fun _ => ⟨rfl, rfl⟩⟩
      rw [a1, a2, b1, b2]
      rcases b3 with jf | ⟨a', e', r, c, hr, hc, nw, kq, cl, sd, kn, zl, jo', _, hx, bd'⟩
      · exact text_bad h bx bm x12 m2 b4 b5 jf
      · exact text_good h x12 m2 bm b4 b5 jo' bd' hx
    · refine ⟨((-2 : Int32), SX), ((-2 : Int32), pI SM 0 0 0), ?_, ?_, ?_, ?_⟩
      · unfold fX10_text; rw [if_neg c0, t1, if_neg c1]
      · unfold fX11_text; rw [if_neg c0, gI_nek (show (2 : Nat) ≠ 0 by decide), t2, if_neg c1]
      · rfl
      · exact hiv
