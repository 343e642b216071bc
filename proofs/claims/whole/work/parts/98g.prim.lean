/-! ===== a law's line: the smallest part ===== -/
def cmpT : List Int32 → Prop
  | [] => False
  | d :: D => rk d = 4 ∨ (5 ≤ rk d ∧ cmpT D)
theorem cmpT_app : ∀ (D : List Int32) (k : Int32), cmpT D → cmpT (D ++ [k])
  | [], _, h => h.elim
  | d :: D, k, h => by
    rcases h with h | h
    · exact Or.inl h
    · exact Or.inr ⟨h.1, cmpT_app D k h.2⟩
theorem cmpT_split : ∀ D : List Int32, cmpT D → ∃ D1 q D2, D = D1 ++ (q :: D2) ∧ rk q = 4 ∧ ∀ d ∈ D1, 5 ≤ rk d
  | [], h => h.elim
  | d :: D, h => by
    rcases h with h | h
    · exact ⟨[], d, D, rfl, h, fun x hx => absurd hx (by simp)⟩
    · obtain ⟨D1, q, D2, e, h1, h2⟩ := cmpT_split D h.2
      refine ⟨d :: D1, q, D2, by rw [e]; rfl, h1, fun x hx => ?_⟩
      rcases List.mem_cons.mp hx with w | w
      · rw [w]; exact h.1
      · exact h2 x w
def NTe (D : List Int32) (r : Nat) : Prop := r = 0 ∨ r = 3 ∨ (r = 4 ∧ cmpT D)
theorem rk3 {k : Int32} (h : rk k = 3) : k = 36 := by
  unfold rk at h
  by_cases c : k = 36
  · exact c
  · repeat (split at h; first | omega | (rename_i q; exact absurd q c))
    omega
section LJ
variable {t n u L b a e kn op : Nat} {bt : Nat → Nat} {W Ox Om : List Int32} {S0 R0 SX SM : MS}
theorem lj_ts4f {D : List Int32} (h : LJ t n bt u L b a e (D ++ W) Ox Om kn op S0 R0 SX SM) (hD : ∀ d ∈ D, 1 ≤ rk d) (hc : cmpT D) (hk : rk (gI SX 48 5) = 4) :
    ∃ A B, fX5_takeSign 48 SX = some A ∧ fX11_wrong 0 1 SM = some B ∧ LF t n bt u L b S0 R0 A B := by
  have hn := h.num
  obtain ⟨D1, q, D2, rfl, hq, hD1⟩ := cmpT_split D hc
  have e1 := h.ct
  have e2 := h.np
  have e3 := nop_app (D1 ++ q :: D2) W hD
  have e4 := nop_le W
  have e5 := h.k64
  have e6 : (D1 ++ q :: D2 ++ W).length = D1.length + (D2.length + 1) + W.length := by rw [List.length_append, List.length_append]; rfl
  have hX : XWt SX (D1 ++ (q :: (D2 ++ W))) := by have := h.xw; rw [List.append_assoc] at this; exact this
  obtain ⟨A, r1, r2, r3, r4, r5⟩ := X_rel (r := 5) h.hu h.hL (show rk (topK (q :: (D2 ++ W))) < 5 by show rk q < 5; omega) (by decide) hD1 h.jo.1.1 h.r10 hX h.xz (by omega)
  obtain ⟨j1, j2, j3, j4⟩ := h.pX (W' := W) (Ox' := Ox) (kn' := kn) (op' := op) (r5.mo (fun o j hp => by unfold RLw at hp; omega))
  obtain ⟨A2, B2, c1, c2, c3, c4, c5⟩ := j_fail (f := 1) j1 (by decide)
  refine ⟨A2, B2, ?_, c2, c3, h.hu, h.hL, by rw [c4.ref]; exact j2, by rw [c4.ref]; exact j3, ⟨q :: (D2 ++ W), ?_, r2.2.1, stk_fr _ (fun k _ => c4.2 _ _ (fun hp => by unfold NY at hp; omega)) r2.2.2⟩, ⟨Ox.length + D1.length, ?_, by omega⟩, j4.tr (c4.mo (fun o j hp => by unfold NY at hp; unfold PLw; omega)), h.fm.tr (c5.mo (fun o j hp => Or.inl hp))⟩
  · unfold fX5_takeSign fX5_takeSign_18 fX5_takeSign_31
    have r1' : fX5_release 48 (nI 4 + 1) SX = some A := r1
    rw [X_rank, Option.bind_some, hk, if_pos (show nI 4 = 4 from rfl), if_neg (show ¬ (1 : Int32) = 0 by decide), r1', Option.bind_some, if_neg (show ¬ (1 : Int32) = 0 by decide), X_last j1.1.1 r2, Option.bind_some, X_rank, Option.bind_some]
    show (if nI (rk q) = nI 4 then _ else _) = _
    rw [hq, if_pos rfl, c1, Option.bind_some]
  · rw [c4.2 _ _ (fun hp => by unfold NY at hp; omega)]; exact r2.1
  · rw [c4.2 _ _ (fun hp => by unfold NY at hp; omega)]; exact r3
theorem LF.le (h : LF t n bt u L b S0 R0 SX SM) : LE t n bt u L b S0 R0 SX SM := by
  obtain ⟨h1, _, _, _, _, _, h6, h7, h8⟩ := h
  exact ⟨h1, h7, h8, h6⟩
/-- the loop stops while something is open: both fail there -/
theorem lj_stuck {D : List Int32} {i : Nat} (h : LJ t n bt u L b a e (D ++ (5 :: W)) Ox Om kn op S0 R0 SX SM) (ho : Om = Ox ++ D.map (fun d => -d)) (hD : ∀ d ∈ D, 1 ≤ rk d) (hi : i + 1 ≤ a) (h6 : gI SX 48 5 ≠ 6) (hnt : NTe D (rk (gI SX 48 5))) :
    ∃ SXf B, rn 0 i SX = some SXf ∧ fX11_wrong 0 1 SM = some B ∧ LE t n bt u L b S0 R0 SXf B ∧ gI B 0 34 ≠ 0 := by
  have pos := h.pos
  have stop : (rk (gI SX 48 5) = 0 ∨ gI SX 48 5 = 36) → ∃ SXf B, rn 0 i SX = some SXf ∧ fX11_wrong 0 1 SM = some B ∧ LE t n bt u L b S0 R0 SXf B ∧ gI B 0 34 ≠ 0 := fun hs => by
    rw [rn_stop (by omega) h.jo.2.2.1 (fun q => absurd q h6) hs]
    obtain ⟨A, r1, r2⟩ := lj_rel (r := 1) h ho (by decide) (by decide) hD (by show rk 5 < 1; decide)
    obtain ⟨A2, B2, c1, c2, c3, c4⟩ := lj_fail (f := 1) r2 (by decide)
    have r1' : fX5_release 48 1 SX = some A := r1
    have hop : 1 ≤ op := by have := r2.np; have e : nop (5 :: W) = nop W + 1 := rfl; omega
    refine ⟨A2, B2, ?_, c2, c3.le, c4⟩
    unfold fX5_readE_94
    rw [r1', Option.bind_some, r2.xp, if_neg (show ¬ nI op ≤ 0 from nle (i := 0) (by have := r2.p8; omega) hop), c1, Option.bind_some]
  rcases hnt with q | q | q
  · exact stop (Or.inl q)
  · exact stop (Or.inr (rk3 q))
  · obtain ⟨A, B, c1, c2, c3⟩ := lj_ts4f h hD q.2 q.1
    have n36 : gI SX 48 5 ≠ 36 := fun z => by have := q.1; rw [z] at this; exact absurd this (by decide)
    obtain ⟨SXf, x1, x2⟩ := lf_rn (i := i + 1) (d := 1) (by omega) c3
    rw [rn_sign (by omega) h.jo.2.2.1 (by omega) n36, c1, Option.bind_some]
    exact ⟨SXf, B, x1, c2, x2, c3.f34⟩
end LJ
