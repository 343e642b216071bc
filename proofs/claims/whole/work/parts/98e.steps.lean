/-! ===== a law's line: brackets, questions, one turn of the loop ===== -/
section LJ
variable {t n u L b a e kn op : Nat} {bt : Nat → Nat} {W Ox Om : List Int32} {S0 R0 SX SM : MS}
theorem lj_open (h : LJ t n bt u L b a e W Ox Om kn op S0 R0 SX SM) (hop : op < 8) :
    ∃ A1 A3 B3 a1 e1, fX5_hold 48 5 SX = some A1 ∧ fX5_next 48 (pI A1 48 12 (gI A1 48 12 + 1)) = some A3 ∧ fX11_token 0 (pI SM 0 38 (gI SM 0 38 + 1)) = some B3 ∧ LJ t n bt u L b a1 e1 (5 :: W) Ox Om kn (op + 1) S0 R0 A3 B3 ∧ e ≤ a1 := by
  have hn := h.num
  have hw : W.length < 72 := by have := h.ct; have := h.k64; omega
  obtain ⟨a1, a2⟩ := X_hold (v := 5) h.jo.1.1 h.xw hw
  have e12 : gI (pI (pI SX 50 W.length 5) 48 11 (nI (W.length + 1))) 48 12 + 1 = nI (op + 1) := by
    rw [gI_nek (by decide), gI_neo (by decide), h.xp, nI_1]
  have e38 : gI SM 0 38 + 1 = nI (op + 1) := by rw [h.mp, nI_1]
  obtain ⟨j1, j2, j3, j4⟩ := h.pX (W' := W) (Ox' := Ox) (kn' := kn) (op' := op) (SX1 := pI (pI (pI SX 50 W.length 5) 48 11 (nI (W.length + 1))) 48 12 (nI (op + 1))) (((Fr.rf.pI (Or.inr (Or.inl rfl))).pI (Or.inl ⟨rfl, Or.inl rfl⟩)).pI (Or.inl ⟨rfl, Or.inr rfl⟩))
  have cx : ∀ o j, o ≠ 50 → o ≠ 48 → gI (pI (pI (pI SX 50 W.length 5) 48 11 (nI (W.length + 1))) 48 12 (nI (op + 1))) o j = gI SX o j := fun o j q1 q2 => by rw [gI_neo q2, gI_neo q2, gI_neo q1]
  have lj : LJ t n bt u L b a e (5 :: W) Ox Om kn (op + 1) S0 R0 (pI (pI (pI SX 50 W.length 5) 48 11 (nI (W.length + 1))) 48 12 (nI (op + 1))) (pI SM 0 38 (nI (op + 1))) := by
    refine ⟨j1.pM (by decide) (fun _ => by decide), h.hu, h.hL, j2, j3, ⟨?_, hw, stk_fr _ (fun j _ => gI_neo (by decide)) a2.2.2⟩, ?_, ?_, ?_, ?_, ?_, ?_, h.k64, gI_same, gI_same, by omega, ?_, ?_, ?_, j4, ?_⟩
    · rw [gI_nek (by decide)]; exact a2.1
    · rw [cx _ _ (by omega) (by omega)]; exact h.xz
    · exact (map_rc (fun i _ => cx _ _ (by omega) (by omega))).trans h.xo
    · rw [gI_neo (by decide)]; exact h.mz
    · refine Eq.trans (map_rc (fun i _ => ?_)) h.mo
      rw [gI_neo (by decide), gI_neo (by decide)]
    · rw [cx _ _ (by omega) (by omega)]; exact h.xk
    · rw [gI_nek (by decide)]; exact h.mk
    · show nop W + (if (5 : Int32) = 5 then 1 else 0) = op + 1
      rw [if_pos rfl, h.np]
    · show W.length + 1 + (b + Ox.length) ≤ kn + (op + 1)
      have := h.ct; omega
    · intro i hi
      rw [gI_neo (by decide), gI_neo (by decide)]; exact h.ok i hi
    · exact h.fm.pI (Or.inr (Or.inl ⟨rfl, Or.inl rfl⟩))
  obtain ⟨A3, B3, a1', e1', n1, n2, n3, n4⟩ := lj_next lj
  refine ⟨_, A3, B3, a1', e1', a1, ?_, ?_, n3, n4⟩
  · rw [e12]; exact n1
  · rw [e38]; exact n2
theorem lj_close (h : LJ t n bt u L b a e (5 :: W) Ox Om kn op S0 R0 SX SM) :
    ∃ A3 B3 a1 e1, fX5_next 48 (pI (pI SX 48 11 (gI SX 48 11 - 1)) 48 12 (gI (pI SX 48 11 (gI SX 48 11 - 1)) 48 12 - 1)) = some A3 ∧ fX11_token 0 (pI SM 0 38 (gI SM 0 38 - 1)) = some B3 ∧ LJ t n bt u L b a1 e1 W Ox Om kn (op - 1) S0 R0 A3 B3 ∧ e ≤ a1 ∧ 1 ≤ op := by
  have hn := h.num
  have hnp : nop W + 1 = op := h.np
  have h11 : gI SX 48 11 - 1 = nI W.length := by rw [show gI SX 48 11 = nI (W.length + 1) from h.xw.1]; exact nI_subN (a := W.length + 1) (b := 1) (by omega)
  have h12 : gI (pI SX 48 11 (nI W.length)) 48 12 - 1 = nI (op - 1) := by rw [gI_nek (by decide), h.xp]; exact nI_subN (a := op) (b := 1) (by omega)
  have h38 : gI SM 0 38 - 1 = nI (op - 1) := by rw [h.mp]; exact nI_subN (a := op) (b := 1) (by omega)
  obtain ⟨j1, j2, j3, j4⟩ := h.pX (W' := W) (Ox' := Ox) (kn' := kn) (op' := op) (SX1 := pI (pI SX 48 11 (nI W.length)) 48 12 (nI (op - 1))) ((Fr.rf.pI (Or.inl ⟨rfl, Or.inl rfl⟩)).pI (Or.inl ⟨rfl, Or.inr rfl⟩))
  have cx : ∀ o j, o ≠ 48 → gI (pI (pI SX 48 11 (nI W.length)) 48 12 (nI (op - 1))) o j = gI SX o j := fun o j q2 => by rw [gI_neo q2, gI_neo q2]
  have hl : W.length + 1 ≤ 72 := h.xw.2.1
  have hct : W.length + 1 + (b + Ox.length) ≤ kn + op := h.ct
  have lj : LJ t n bt u L b a e W Ox Om kn (op - 1) S0 R0 (pI (pI SX 48 11 (nI W.length)) 48 12 (nI (op - 1))) (pI SM 0 38 (nI (op - 1))) := by
    refine ⟨j1.pM (by decide) (fun _ => by decide), h.hu, h.hL, j2, j3, ⟨?_, by omega, stk_fr _ (fun j _ => cx _ _ (by decide)) h.xw.2.2.2⟩, ?_, ?_, ?_, ?_, ?_, ?_, h.k64, gI_same, gI_same, by have := h.p8; omega, by omega, by omega, ?_, j4, ?_⟩
    · rw [gI_nek (by decide), gI_same]
    · rw [cx _ _ (by omega)]; exact h.xz
    · exact (map_rc (fun i _ => cx _ _ (by omega))).trans h.xo
    · rw [gI_neo (by decide)]; exact h.mz
    · refine Eq.trans (map_rc (fun i _ => ?_)) h.mo
      rw [gI_neo (by decide), gI_neo (by decide)]
    · rw [cx _ _ (by omega)]; exact h.xk
    · rw [gI_nek (by decide)]; exact h.mk
    · intro i hi
      rw [gI_neo (by decide), gI_neo (by decide)]; exact h.ok i hi
    · exact h.fm.pI (Or.inr (Or.inl ⟨rfl, Or.inl rfl⟩))
  obtain ⟨A3, B3, a1', e1', n1, n2, n3, n4⟩ := lj_next lj
  refine ⟨A3, B3, a1', e1', ?_, ?_, n3, n4, by omega⟩
  · rw [h11, h12]; exact n1
  · rw [h38]; exact n2
theorem LJ.tk (h : LJ t n bt u L b a e W Ox Om kn op S0 R0 SX SM) : TK (gI SX 48 5) (gI SX 48 6) (gI SM 0 32) (gI SM 0 33) := h.jo.2.2.2.2.2.2.2.2.2.2
theorem lj_word {j : Nat} (h : LJ t n bt u L b a e W Ox Om kn op S0 R0 SX SM) (hj : j < 24) : fX11_isWord 0 (nI j) SM = some (b2i (decide (gI SX 48 5 = nI (20 + j)))) := by
  unfold fX11_isWord
  rw [if_pos h.jo.2.2.2.1]
  have q := h.tk.wrd hj
  by_cases c : gI SX 48 5 = nI (20 + j)
  · rw [decide_eq_true c, if_pos (q.mp c).1, if_pos (q.mp c).2]; rfl
  · rw [decide_eq_false c]
    by_cases c1 : gI SM 0 32 = 0
    · rw [if_pos c1, if_neg (fun g => c (q.mpr ⟨c1, g⟩))]; rfl
    · rw [if_neg c1]; rfl
theorem lj_sign {c : Nat} (h : LJ t n bt u L b a e W Ox Om kn op S0 R0 SX SM) (h4 : 4 ≤ c) (h17 : c < 17) : fX11_isSign 0 (sgV c) SM = some (b2i (decide (gI SX 48 5 = nI c))) := by
  unfold fX11_isSign
  rw [if_pos h.jo.2.2.2.1]
  have q := h.tk.sgn h4 h17
  by_cases k : gI SX 48 5 = nI c
  · rw [decide_eq_true k, if_pos (q.mp k).1, if_pos (q.mp k).2]; rfl
  · rw [decide_eq_false k]
    by_cases c1 : gI SM 0 32 = 3
    · rw [if_pos c1, if_neg (fun g => k (q.mpr ⟨c1, g⟩))]; rfl
    · rw [if_neg c1]; rfl
theorem M_word_f {S : MS} {w : Int32} (h0 : gI S 0 34 ≠ 0) : fX11_isWord 0 w S = some 0 := by unfold fX11_isWord; rw [if_neg h0]
theorem M_sign_f {S : MS} {w : Int32} (h0 : gI S 0 34 ≠ 0) : fX11_isSign 0 w S = some 0 := by unfold fX11_isSign; rw [if_neg h0]
/-! one turn of the loop -/
def rn (d : Int32) (i : Nat) (S : MS) : Option MS := fX5_readE_14 (1000 - i) 48 d (nI i) S
theorem rn_part {i : Nat} {S : MS} (hi : i < 700) (h0 : gI S 48 16 = 0) : rn 1 i S = (fX5_takePart 48 S).bind fun q => rn q.1 (i + 1) q.2 := by
  have e : rn 1 i S = fX5_readE_14 ((1000 - (i + 1)) + 1) 48 1 (nI i) S := by unfold rn; rw [show 1000 - i = (1000 - (i + 1)) + 1 by omega]
  rw [e]
  unfold fX5_readE_14 fX5_readE_88
  rw [if_neg (show ¬ (700 : Int32) ≤ nI i from nle (n := 700) (by decide) hi), if_pos h0, if_neg (by decide), nI_1]
  rfl
theorem rn_close {i : Nat} {S : MS} (hi : i < 700) (h0 : gI S 48 16 = 0) (h6 : gI S 48 5 = 6) (hop : ¬ gI S 48 12 ≤ 0) : rn 0 i S = (fX5_takeClose 48 S).bind fun q => rn 0 (i + 1) q := by
  have e : rn 0 i S = fX5_readE_14 ((1000 - (i + 1)) + 1) 48 0 (nI i) S := by unfold rn; rw [show 1000 - i = (1000 - (i + 1)) + 1 by omega]
  rw [e]
  unfold fX5_readE_14 fX5_readE_88
  rw [if_neg (show ¬ (700 : Int32) ≤ nI i from nle (n := 700) (by decide) hi), if_pos h0, if_pos rfl, if_pos h6, if_neg hop, nI_1]
  rfl
theorem rn_63 {i : Nat} {S : MS} (hi : i < 700) (h0 : gI S 48 16 = 0) (h6 : gI S 48 5 = 6 → gI S 48 12 ≤ 0) : rn 0 i S = fX5_readE_63 (fX5_readE_14 (1000 - (i + 1))) 48 (nI i) S := by
  unfold rn
  rw [show 1000 - i = (1000 - (i + 1)) + 1 by omega]
  unfold fX5_readE_14
  rw [if_neg (show ¬ (700 : Int32) ≤ nI i from nle (n := 700) (by decide) hi), if_pos h0, if_pos rfl]
  by_cases c : gI S 48 5 = 6
  · rw [if_pos c, if_pos (h6 c)]
  · rw [if_neg c]
theorem rn_sign {i : Nat} {S : MS} (hi : i < 700) (h0 : gI S 48 16 = 0) (hr : 1 ≤ rk (gI S 48 5)) (h36 : gI S 48 5 ≠ 36) : rn 0 i S = (fX5_takeSign 48 S).bind fun q => rn 1 (i + 1) q := by
  have h6 : gI S 48 5 = 6 → gI S 48 12 ≤ 0 := fun q => by rw [q] at hr; exact absurd hr (by decide)
  rw [rn_63 hi h0 h6]
  unfold fX5_readE_63 fX5_readE_88 rn
  rw [X_rank, Option.bind_some, if_neg (show ¬ nI (rk (gI S 48 5)) ≤ 0 from nle (i := 0) (by have := rk_le (k := gI S 48 5); omega) hr), if_neg h36, nI_1]
theorem rn_stop {i : Nat} {S : MS} (hi : i < 700) (h0 : gI S 48 16 = 0) (h6 : gI S 48 5 = 6 → gI S 48 12 ≤ 0) (hr : rk (gI S 48 5) = 0 ∨ gI S 48 5 = 36) : rn 0 i S = fX5_readE_94 48 S := by
  rw [rn_63 hi h0 h6]
  unfold fX5_readE_63
  rw [X_rank, Option.bind_some]
  rcases hr with q | q
  · rw [q, if_pos (show nI 0 ≤ 0 by decide)]
  · rw [q]; rfl
theorem lf_rn {i : Nat} {d : Int32} (hi : i < 1000) (h : LF t n bt u L b S0 R0 SX SM) : ∃ SXf, rn d i SX = some SXf ∧ LE t n bt u L b S0 R0 SXf SM := by
  unfold rn
  rw [show 1000 - i = (1000 - (i + 1)) + 1 by omega]
  exact lf_run h
end LJ
