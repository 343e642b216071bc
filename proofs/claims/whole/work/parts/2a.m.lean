def fX11_primary_194 (Rc_e : Nat → MS → Option MS)  (x0 : Nat) (y0 : Nat) (y1 : Int32) (y2 : Int32) (S : MS) : Option MS := (fX11_puts  y0 y1 y2 S).bind fun q1 => (fX11_goOn  x0 q1).bind fun q3 => some q3
def fX11_primary_176 (Rc_e : Nat → MS → Option MS)  (x0 : Nat) (x1 : Int32) (y0 : Nat) (y1 : Int32) (S : MS) : Option MS := (if x1 = (0 : Int32) then fX11_primary_194 Rc_e  x0 y0 y1 ((gI S x0 33) - (17 : Int32)) S else fX11_primary_194 Rc_e  x0 y0 y1 (gI S x0 33) S)
def fX11_primary_162 (Rc_e : Nat → MS → Option MS)  (x0 : Nat) (x1 : Int32) (S : MS) : Option MS := (fX11_knot  x0 S).bind fun q6 => (if x1 = (0 : Int32) then fX11_primary_176 Rc_e  x0 x1 x0 (1 : Int32) q6 else fX11_primary_176 Rc_e  x0 x1 x0 (0 : Int32) q6)
def fX11_primary_157 (Rc_e : Nat → MS → Option MS)  (x0 : Nat) (x1 : Int32) (S : MS) : Option MS := (fX11_wrong  x0 (1 : Int32) S).bind fun q9 => fX11_primary_162 Rc_e  x0 x1 q9
def fX11_primary_137 (Rc_e : Nat → MS → Option MS)  (x0 : Nat) (x1 : Int32) (S : MS) : Option MS := (if x1 = (0 : Int32) then (if gI S x0 32 = (0 : Int32) then (if (17 : Int32) ≤ (gI S x0 33) then fX11_primary_162 Rc_e  x0 x1 S else fX11_primary_157 Rc_e  x0 x1 S) else fX11_primary_157 Rc_e  x0 x1 S) else fX11_primary_162 Rc_e  x0 x1 S)
def fX11_primary_114 (Rc_e : Nat → MS → Option MS)  (x0 : Nat) (y0 : Int32) (S : MS) : Option MS := (if y0 = (0 : Int32) then fX11_primary_137 Rc_e  x0 y0 S else (if (gI S x0 33) ≤ (9999 : Int32) then fX11_primary_137 Rc_e  x0 y0 S else (fX11_wrong  x0 (2 : Int32) S).bind fun q16 => fX11_primary_162 Rc_e  x0 y0 q16))
def fX11_primary_78 (Rc_e : Nat → MS → Option MS)  (x0 : Nat) (S : MS) : Option MS := (if gI S x0 34 = (0 : Int32) then (fX11_token  x0 (pI S x0 38 ((gI S x0 38) - (1 : Int32)))).bind fun q19 => some q19 else some S)
def fX11_primary_31 (Rc_e : Nat → MS → Option MS)  (x0 : Nat) (S : MS) : Option MS := (if gI S x0 34 = (0 : Int32) then (fX11_token  x0 (pI S x0 38 ((gI S x0 38) + (1 : Int32)))).bind fun q22 => (Rc_e x0 q22).bind fun q24 => (if gI q24 x0 34 = (0 : Int32) then (fX11_isSign  x0 (41 : Int32) q24).bind fun q27 => (if q27 = (0 : Int32) then (fX11_wrong  x0 (1 : Int32) q24).bind fun q30 => fX11_primary_78 Rc_e  x0 q30 else fX11_primary_78 Rc_e  x0 q24) else fX11_primary_78 Rc_e  x0 q24) else some S)
def fX11_primary (Rc_e : Nat → MS → Option MS) (a0 : Nat) (S : MS) : Option MS := (if gI S a0 34 = (0 : Int32) then (fX11_isSign  a0 (40 : Int32) S).bind fun q33 => (if q33 = (0 : Int32) then (if gI S a0 32 = (2 : Int32) then fX11_primary_114 Rc_e  a0 (1 : Int32) S else fX11_primary_114 Rc_e  a0 (0 : Int32) S) else (if gI S a0 38 = (8 : Int32) then (fX11_wrong  a0 (2 : Int32) S).bind fun q38 => fX11_primary_31 Rc_e  a0 q38 else fX11_primary_31 Rc_e  a0 S)) else some S)
set_option maxRecDepth 100000 in
theorem kX11_primary_194 {p : Program} {l : Launch} {e : Env} {s : State} {m : MethodId} {av : Array Value} {below : List Frame} {meth : Method} {c : Code} {A : Nat → Prop} {G : Gv} {L : List Nat} {q : MS} {Rc_e : Nat → MS → Option MS} {de : Nat} (hde : 40 ≤ de) (hRc_e : ∀ (a0 : Nat) (S q : MS), (a0 < shM.1 ∧ shM.2.1 a0 = 11) → Rc_e a0 S = some q → Mt l yX11_expression cX11_expression 1 none de G shM L S [.ref (ad L a0)] none q)  (C : mC p s m av meth c cX11_primary RX11 2 none) : ∀ (x0 : Nat) (y0 : Nat) (y1 : Int32) (y2 : Int32) (S : MS) (H : Heap) (locs : List Loc) (ls : Array Slot), (x0 < shM.1 ∧ shM.2.1 x0 = 11) → (y0 < shM.1 ∧ shM.2.1 y0 = 11) → mW G shM L S A s H locs → lv_has ls 2 [(0, .ref (ad L x0))] → fX11_primary_194 Rc_e  x0 y0 y1 y2 S = some q → W p l e (rmd (de + 1)) s m av below meth c H locs 0 0 (MQ below (mQ G shM L q none A) av s 0 0 A) (F0 m 194 ls [.int y2, .int y1, .ref (ad L y0)]) := by
  intro x0 y0 y1 y2 S H locs ls hx0 hy0 hW hl hf
  unfold fX11_primary_194 at hf
  obtain ⟨q1, h2, hf⟩ := bd hf
  refine m_callV (As := [.int y1, .int y2]) (rest := []) C hW hy0 (cX11_puts_ok  hy0 h2) mlX11_300 (by decide) rfl hl.1 rfl (Nat.le_of_ble_eq_true rfl) (by omega) (Nat.le_of_ble_eq_true rfl) dX11_primary_194 (fun H locs hW => ?_)
  refine lv_aload_n C.1 C.2.1 dX11_primary_197 rfl (lv_at hl 0 rfl) ?_
  obtain ⟨q3, h4, hf⟩ := bd hf
  refine m_callV (As := []) (rest := []) C hW hx0 (cX11_goOn_ok  hx0 h4) mlX11_297 (by decide) rfl hl.1 rfl (Nat.le_of_ble_eq_true rfl) (by omega) (Nat.le_of_ble_eq_true rfl) dX11_primary_198 (fun H locs hW => ?_)
  cases hf
  exact m_vret C hW dX11_primary_201

set_option maxRecDepth 100000 in
theorem kX11_primary_176 {p : Program} {l : Launch} {e : Env} {s : State} {m : MethodId} {av : Array Value} {below : List Frame} {meth : Method} {c : Code} {A : Nat → Prop} {G : Gv} {L : List Nat} {q : MS} {Rc_e : Nat → MS → Option MS} {de : Nat} (hde : 40 ≤ de) (hRc_e : ∀ (a0 : Nat) (S q : MS), (a0 < shM.1 ∧ shM.2.1 a0 = 11) → Rc_e a0 S = some q → Mt l yX11_expression cX11_expression 1 none de G shM L S [.ref (ad L a0)] none q)  (C : mC p s m av meth c cX11_primary RX11 2 none) : ∀ (x0 : Nat) (x1 : Int32) (y0 : Nat) (y1 : Int32) (S : MS) (H : Heap) (locs : List Loc) (ls : Array Slot), (x0 < shM.1 ∧ shM.2.1 x0 = 11) → (y0 < shM.1 ∧ shM.2.1 y0 = 11) → mW G shM L S A s H locs → lv_has ls 2 [(0, .ref (ad L x0)), (1, .int x1)] → fX11_primary_176 Rc_e  x0 x1 y0 y1 S = some q → W p l e (rmd (de + 1)) s m av below meth c H locs 0 0 (MQ below (mQ G shM L q none A) av s 0 0 A) (F0 m 176 ls [.int y1, .ref (ad L y0)]) := by
  intro x0 x1 y0 y1 S H locs ls hx0 hy0 hW hl hf
  unfold fX11_primary_176 at hf
  refine lv_iload_n C.1 C.2.1 dX11_primary_176 rfl (lv_at hl 1 rfl) ?_
  refine lv_if_eq (tgt := 187) C.1 C.2.1 dX11_primary_177 rfl (fun c5 => ?_) (fun c5 => ?_)
  · have hf := (if_pos c5).symm.trans hf
    refine lv_aload_n C.1 C.2.1 dX11_primary_187 rfl (lv_at hl 0 rfl) ?_
    refine m_geti C hW hx0 flX11_192 dX11_primary_188 ?_
    refine lv_bipush C.1 C.2.1 dX11_primary_191 bp_17 ?_
    refine lv_isub C.1 C.2.1 dX11_primary_193 ?_
    exact kX11_primary_194 hde hRc_e  C x0 y0 y1 ((gI S x0 33) - (17 : Int32)) _ _ _ _ hx0 hy0 hW (lv_sub hl [0] rfl) hf
  · have hf := (if_neg c5).symm.trans hf
    refine lv_aload_n C.1 C.2.1 dX11_primary_180 rfl (lv_at hl 0 rfl) ?_
    refine m_geti C hW hx0 flX11_192 dX11_primary_181 ?_
    refine lv_goto (tgt := 194) C.1 C.2.1 dX11_primary_184 rfl ?_
    exact kX11_primary_194 hde hRc_e  C x0 y0 y1 (gI S x0 33) _ _ _ _ hx0 hy0 hW (lv_sub hl [0] rfl) hf

set_option maxRecDepth 100000 in
theorem kX11_primary_162 {p : Program} {l : Launch} {e : Env} {s : State} {m : MethodId} {av : Array Value} {below : List Frame} {meth : Method} {c : Code} {A : Nat → Prop} {G : Gv} {L : List Nat} {q : MS} {Rc_e : Nat → MS → Option MS} {de : Nat} (hde : 40 ≤ de) (hRc_e : ∀ (a0 : Nat) (S q : MS), (a0 < shM.1 ∧ shM.2.1 a0 = 11) → Rc_e a0 S = some q → Mt l yX11_expression cX11_expression 1 none de G shM L S [.ref (ad L a0)] none q)  (C : mC p s m av meth c cX11_primary RX11 2 none) : ∀ (x0 : Nat) (x1 : Int32) (S : MS) (H : Heap) (locs : List Loc) (ls : Array Slot), (x0 < shM.1 ∧ shM.2.1 x0 = 11) → mW G shM L S A s H locs → lv_has ls 2 [(0, .ref (ad L x0)), (1, .int x1)] → fX11_primary_162 Rc_e  x0 x1 S = some q → W p l e (rmd (de + 1)) s m av below meth c H locs 0 0 (MQ below (mQ G shM L q none A) av s 0 0 A) (F0 m 162 ls []) := by
  intro x0 x1 S H locs ls hx0 hW hl hf
  unfold fX11_primary_162 at hf
  refine lv_aload_n C.1 C.2.1 dX11_primary_162 rfl (lv_at hl 0 rfl) ?_
  obtain ⟨q6, h7, hf⟩ := bd hf
  refine m_callV (As := []) (rest := []) C hW hx0 (cX11_knot_ok  hx0 h7) mlX11_294 (by decide) rfl hl.1 rfl (Nat.le_of_ble_eq_true rfl) (by omega) (Nat.le_of_ble_eq_true rfl) dX11_primary_163 (fun H locs hW => ?_)
  refine lv_aload_n C.1 C.2.1 dX11_primary_166 rfl (lv_at hl 0 rfl) ?_
  refine lv_iload_n C.1 C.2.1 dX11_primary_167 rfl (lv_at hl 1 rfl) ?_
  refine lv_if_eq (tgt := 175) C.1 C.2.1 dX11_primary_168 rfl (fun c8 => ?_) (fun c8 => ?_)
  · have hf := (if_pos c8).symm.trans hf
    refine lv_iconst C.1 C.2.1 dX11_primary_175 ic_1 ?_
    exact kX11_primary_176 hde hRc_e  C x0 x1 x0 (1 : Int32) _ _ _ _ hx0 hx0 hW (lv_sub hl [0, 1] rfl) hf
  · have hf := (if_neg c8).symm.trans hf
    refine lv_iconst C.1 C.2.1 dX11_primary_171 ic_0 ?_
    refine lv_goto (tgt := 176) C.1 C.2.1 dX11_primary_172 rfl ?_
    exact kX11_primary_176 hde hRc_e  C x0 x1 x0 (0 : Int32) _ _ _ _ hx0 hx0 hW (lv_sub hl [0, 1] rfl) hf

set_option maxRecDepth 100000 in
theorem kX11_primary_157 {p : Program} {l : Launch} {e : Env} {s : State} {m : MethodId} {av : Array Value} {below : List Frame} {meth : Method} {c : Code} {A : Nat → Prop} {G : Gv} {L : List Nat} {q : MS} {Rc_e : Nat → MS → Option MS} {de : Nat} (hde : 40 ≤ de) (hRc_e : ∀ (a0 : Nat) (S q : MS), (a0 < shM.1 ∧ shM.2.1 a0 = 11) → Rc_e a0 S = some q → Mt l yX11_expression cX11_expression 1 none de G shM L S [.ref (ad L a0)] none q)  (C : mC p s m av meth c cX11_primary RX11 2 none) : ∀ (x0 : Nat) (x1 : Int32) (S : MS) (H : Heap) (locs : List Loc) (ls : Array Slot), (x0 < shM.1 ∧ shM.2.1 x0 = 11) → mW G shM L S A s H locs → lv_has ls 2 [(0, .ref (ad L x0)), (1, .int x1)] → fX11_primary_157 Rc_e  x0 x1 S = some q → W p l e (rmd (de + 1)) s m av below meth c H locs 0 0 (MQ below (mQ G shM L q none A) av s 0 0 A) (F0 m 157 ls []) := by
  intro x0 x1 S H locs ls hx0 hW hl hf
  unfold fX11_primary_157 at hf
  refine lv_aload_n C.1 C.2.1 dX11_primary_157 rfl (lv_at hl 0 rfl) ?_
  refine lv_iconst C.1 C.2.1 dX11_primary_158 ic_1 ?_
  obtain ⟨q9, h10, hf⟩ := bd hf
  refine m_callV (As := [.int (1 : Int32)]) (rest := []) C hW hx0 (cX11_wrong_ok  hx0 h10) mlX11_226 (by decide) rfl hl.1 rfl (Nat.le_of_ble_eq_true rfl) (by omega) (Nat.le_of_ble_eq_true rfl) dX11_primary_159 (fun H locs hW => ?_)
  exact kX11_primary_162 hde hRc_e  C x0 x1 _ _ _ _ hx0 hW (lv_sub hl [0, 1] rfl) hf

set_option maxRecDepth 100000 in
theorem kX11_primary_137 {p : Program} {l : Launch} {e : Env} {s : State} {m : MethodId} {av : Array Value} {below : List Frame} {meth : Method} {c : Code} {A : Nat → Prop} {G : Gv} {L : List Nat} {q : MS} {Rc_e : Nat → MS → Option MS} {de : Nat} (hde : 40 ≤ de) (hRc_e : ∀ (a0 : Nat) (S q : MS), (a0 < shM.1 ∧ shM.2.1 a0 = 11) → Rc_e a0 S = some q → Mt l yX11_expression cX11_expression 1 none de G shM L S [.ref (ad L a0)] none q)  (C : mC p s m av meth c cX11_primary RX11 2 none) : ∀ (x0 : Nat) (x1 : Int32) (S : MS) (H : Heap) (locs : List Loc) (ls : Array Slot), (x0 < shM.1 ∧ shM.2.1 x0 = 11) → mW G shM L S A s H locs → lv_has ls 2 [(0, .ref (ad L x0)), (1, .int x1)] → fX11_primary_137 Rc_e  x0 x1 S = some q → W p l e (rmd (de + 1)) s m av below meth c H locs 0 0 (MQ below (mQ G shM L q none A) av s 0 0 A) (F0 m 137 ls []) := by
  intro x0 x1 S H locs ls hx0 hW hl hf
  unfold fX11_primary_137 at hf
  refine lv_iload_n C.1 C.2.1 dX11_primary_137 rfl (lv_at hl 1 rfl) ?_
  refine lv_if_ne (tgt := 162) C.1 C.2.1 dX11_primary_138 rfl (fun c11 => ?_) (fun c11 => ?_)
  · have hf := (if_neg c11).symm.trans hf
    exact kX11_primary_162 hde hRc_e  C x0 x1 _ _ _ _ hx0 hW (lv_sub hl [0, 1] rfl) hf
  · have hf := (if_pos c11).symm.trans hf
    refine lv_aload_n C.1 C.2.1 dX11_primary_141 rfl (lv_at hl 0 rfl) ?_
    refine m_geti C hW hx0 flX11_182 dX11_primary_142 ?_
    refine lv_if_ne (tgt := 157) C.1 C.2.1 dX11_primary_145 rfl (fun c12 => ?_) (fun c12 => ?_)
    · have hf := (if_neg c12).symm.trans hf
      exact kX11_primary_157 hde hRc_e  C x0 x1 _ _ _ _ hx0 hW (lv_sub hl [0, 1] rfl) hf
    · have hf := (if_pos c12).symm.trans hf
      refine lv_aload_n C.1 C.2.1 dX11_primary_148 rfl (lv_at hl 0 rfl) ?_
      refine m_geti C hW hx0 flX11_192 dX11_primary_149 ?_
      refine lv_bipush C.1 C.2.1 dX11_primary_152 bp_17 ?_
      refine lv_icmp_ge (tgt := 162) C.1 C.2.1 dX11_primary_154 rfl (fun c13 => ?_) (fun c13 => ?_)
      · have hf := (if_pos c13).symm.trans hf
        exact kX11_primary_162 hde hRc_e  C x0 x1 _ _ _ _ hx0 hW (lv_sub hl [0, 1] rfl) hf
      · have hf := (if_neg c13).symm.trans hf
        exact kX11_primary_157 hde hRc_e  C x0 x1 _ _ _ _ hx0 hW (lv_sub hl [0, 1] rfl) hf

set_option maxRecDepth 100000 in
theorem kX11_primary_114 {p : Program} {l : Launch} {e : Env} {s : State} {m : MethodId} {av : Array Value} {below : List Frame} {meth : Method} {c : Code} {A : Nat → Prop} {G : Gv} {L : List Nat} {q : MS} {Rc_e : Nat → MS → Option MS} {de : Nat} (hde : 40 ≤ de) (hRc_e : ∀ (a0 : Nat) (S q : MS), (a0 < shM.1 ∧ shM.2.1 a0 = 11) → Rc_e a0 S = some q → Mt l yX11_expression cX11_expression 1 none de G shM L S [.ref (ad L a0)] none q)  (C : mC p s m av meth c cX11_primary RX11 2 none) : ∀ (x0 : Nat) (y0 : Int32) (S : MS) (H : Heap) (locs : List Loc) (ls : Array Slot), (x0 < shM.1 ∧ shM.2.1 x0 = 11) → mW G shM L S A s H locs → lv_has ls 2 [(0, .ref (ad L x0))] → fX11_primary_114 Rc_e  x0 y0 S = some q → W p l e (rmd (de + 1)) s m av below meth c H locs 0 0 (MQ below (mQ G shM L q none A) av s 0 0 A) (F0 m 114 ls [.int y0]) := by
  intro x0 y0 S H locs ls hx0 hW hl hf
  unfold fX11_primary_114 at hf
  refine lv_istore_n (lv' := [(1, .int y0), (0, .ref (ad L x0))]) C.1 C.2.1 dX11_primary_114 rfl hl (by decide) rfl (fun ls hl => ?_)
  refine lv_iload_n C.1 C.2.1 dX11_primary_115 rfl (lv_at hl 0 rfl) ?_
  refine lv_if_eq (tgt := 137) C.1 C.2.1 dX11_primary_116 rfl (fun c14 => ?_) (fun c14 => ?_)
  · have hf := (if_pos c14).symm.trans hf
    exact kX11_primary_137 hde hRc_e  C x0 y0 _ _ _ _ hx0 hW (lv_sub hl [1, 0] rfl) hf
  · have hf := (if_neg c14).symm.trans hf
    refine lv_aload_n C.1 C.2.1 dX11_primary_119 rfl (lv_at hl 1 rfl) ?_
    refine m_geti C hW hx0 flX11_192 dX11_primary_120 ?_
    refine lv_sipush C.1 C.2.1 dX11_primary_123 sp_9999 ?_
    refine lv_icmp_le (tgt := 137) C.1 C.2.1 dX11_primary_126 rfl (fun c15 => ?_) (fun c15 => ?_)
    · have hf := (if_pos c15).symm.trans hf
      exact kX11_primary_137 hde hRc_e  C x0 y0 _ _ _ _ hx0 hW (lv_sub hl [1, 0] rfl) hf
    · have hf := (if_neg c15).symm.trans hf
      refine lv_aload_n C.1 C.2.1 dX11_primary_129 rfl (lv_at hl 1 rfl) ?_
      refine lv_iconst C.1 C.2.1 dX11_primary_130 ic_2 ?_
      obtain ⟨q16, h17, hf⟩ := bd hf
      refine m_callV (As := [.int (2 : Int32)]) (rest := []) C hW hx0 (cX11_wrong_ok  hx0 h17) mlX11_226 (by decide) rfl hl.1 rfl (Nat.le_of_ble_eq_true rfl) (by omega) (Nat.le_of_ble_eq_true rfl) dX11_primary_131 (fun H locs hW => ?_)
      refine lv_goto (tgt := 162) C.1 C.2.1 dX11_primary_134 rfl ?_
      exact kX11_primary_162 hde hRc_e  C x0 y0 _ _ _ _ hx0 hW (lv_sub hl [1, 0] rfl) hf

set_option maxRecDepth 100000 in
theorem kX11_primary_78 {p : Program} {l : Launch} {e : Env} {s : State} {m : MethodId} {av : Array Value} {below : List Frame} {meth : Method} {c : Code} {A : Nat → Prop} {G : Gv} {L : List Nat} {q : MS} {Rc_e : Nat → MS → Option MS} {de : Nat} (hde : 40 ≤ de) (hRc_e : ∀ (a0 : Nat) (S q : MS), (a0 < shM.1 ∧ shM.2.1 a0 = 11) → Rc_e a0 S = some q → Mt l yX11_expression cX11_expression 1 none de G shM L S [.ref (ad L a0)] none q)  (C : mC p s m av meth c cX11_primary RX11 2 none) : ∀ (x0 : Nat) (S : MS) (H : Heap) (locs : List Loc) (ls : Array Slot), (x0 < shM.1 ∧ shM.2.1 x0 = 11) → mW G shM L S A s H locs → lv_has ls 2 [(0, .ref (ad L x0))] → fX11_primary_78 Rc_e  x0 S = some q → W p l e (rmd (de + 1)) s m av below meth c H locs 0 0 (MQ below (mQ G shM L q none A) av s 0 0 A) (F0 m 78 ls []) := by
  intro x0 S H locs ls hx0 hW hl hf
  unfold fX11_primary_78 at hf
  refine lv_aload_n C.1 C.2.1 dX11_primary_78 rfl (lv_at hl 0 rfl) ?_
  refine m_geti C hW hx0 flX11_217 dX11_primary_79 ?_
  refine lv_if_eq (tgt := 86) C.1 C.2.1 dX11_primary_82 rfl (fun c18 => ?_) (fun c18 => ?_)
  · have hf := (if_pos c18).symm.trans hf
    refine lv_aload_n C.1 C.2.1 dX11_primary_86 rfl (lv_at hl 0 rfl) ?_
    refine lv_dup C.1 C.2.1 dX11_primary_87 rfl ?_
    refine m_geti C hW hx0 flX11_315 dX11_primary_88 ?_
    refine lv_iconst C.1 C.2.1 dX11_primary_91 ic_1 ?_
    refine lv_isub C.1 C.2.1 dX11_primary_92 ?_
    refine m_puti C hW hx0 fpX11_315 dX11_primary_93 (fun H locs hW => ?_)
    refine lv_aload_n C.1 C.2.1 dX11_primary_96 rfl (lv_at hl 0 rfl) ?_
    obtain ⟨q19, h20, hf⟩ := bd hf
    refine m_callV (As := []) (rest := []) C hW hx0 (cX11_token_ok  hx0 h20) mlX11_223 (by decide) rfl hl.1 rfl (Nat.le_of_ble_eq_true rfl) (by omega) (Nat.le_of_ble_eq_true rfl) dX11_primary_97 (fun H locs hW => ?_)
    cases hf
    exact m_vret C hW dX11_primary_100
  · have hf := (if_neg c18).symm.trans hf
    cases hf
    exact m_vret C hW dX11_primary_85

set_option maxRecDepth 100000 in
theorem kX11_primary_31 {p : Program} {l : Launch} {e : Env} {s : State} {m : MethodId} {av : Array Value} {below : List Frame} {meth : Method} {c : Code} {A : Nat → Prop} {G : Gv} {L : List Nat} {q : MS} {Rc_e : Nat → MS → Option MS} {de : Nat} (hde : 40 ≤ de) (hRc_e : ∀ (a0 : Nat) (S q : MS), (a0 < shM.1 ∧ shM.2.1 a0 = 11) → Rc_e a0 S = some q → Mt l yX11_expression cX11_expression 1 none de G shM L S [.ref (ad L a0)] none q)  (C : mC p s m av meth c cX11_primary RX11 2 none) : ∀ (x0 : Nat) (S : MS) (H : Heap) (locs : List Loc) (ls : Array Slot), (x0 < shM.1 ∧ shM.2.1 x0 = 11) → mW G shM L S A s H locs → lv_has ls 2 [(0, .ref (ad L x0))] → fX11_primary_31 Rc_e  x0 S = some q → W p l e (rmd (de + 1)) s m av below meth c H locs 0 0 (MQ below (mQ G shM L q none A) av s 0 0 A) (F0 m 31 ls []) := by
  intro x0 S H locs ls hx0 hW hl hf
  unfold fX11_primary_31 at hf
  refine lv_aload_n C.1 C.2.1 dX11_primary_31 rfl (lv_at hl 0 rfl) ?_
  refine m_geti C hW hx0 flX11_217 dX11_primary_32 ?_
  refine lv_if_eq (tgt := 39) C.1 C.2.1 dX11_primary_35 rfl (fun c21 => ?_) (fun c21 => ?_)
  · have hf := (if_pos c21).symm.trans hf
    refine lv_aload_n C.1 C.2.1 dX11_primary_39 rfl (lv_at hl 0 rfl) ?_
    refine lv_dup C.1 C.2.1 dX11_primary_40 rfl ?_
    refine m_geti C hW hx0 flX11_315 dX11_primary_41 ?_
    refine lv_iconst C.1 C.2.1 dX11_primary_44 ic_1 ?_
    refine lv_iadd C.1 C.2.1 dX11_primary_45 ?_
    refine m_puti C hW hx0 fpX11_315 dX11_primary_46 (fun H locs hW => ?_)
    refine lv_aload_n C.1 C.2.1 dX11_primary_49 rfl (lv_at hl 0 rfl) ?_
    obtain ⟨q22, h23, hf⟩ := bd hf
    refine m_callV (As := []) (rest := []) C hW hx0 (cX11_token_ok  hx0 h23) mlX11_223 (by decide) rfl hl.1 rfl (Nat.le_of_ble_eq_true rfl) (by omega) (Nat.le_of_ble_eq_true rfl) dX11_primary_50 (fun H locs hW => ?_)
    refine lv_aload_n C.1 C.2.1 dX11_primary_53 rfl (lv_at hl 0 rfl) ?_
    obtain ⟨q24, h25, hf⟩ := bd hf
    refine m_callV (As := []) (rest := []) C hW hx0 (hRc_e x0 q22 q24 hx0 h25) mlX11_282 (by decide) rfl hl.1 rfl (Nat.le_of_ble_eq_true rfl) (by omega) (Nat.le_of_ble_eq_true rfl) dX11_primary_54 (fun H locs hW => ?_)
    refine lv_aload_n C.1 C.2.1 dX11_primary_57 rfl (lv_at hl 0 rfl) ?_
    refine m_geti C hW hx0 flX11_217 dX11_primary_58 ?_
    refine lv_if_ne (tgt := 78) C.1 C.2.1 dX11_primary_61 rfl (fun c26 => ?_) (fun c26 => ?_)
    · have hf := (if_neg c26).symm.trans hf
      exact kX11_primary_78 hde hRc_e  C x0 _ _ _ _ hx0 hW (lv_sub hl [0] rfl) hf
    · have hf := (if_pos c26).symm.trans hf
      refine lv_aload_n C.1 C.2.1 dX11_primary_64 rfl (lv_at hl 0 rfl) ?_
      refine lv_bipush C.1 C.2.1 dX11_primary_65 bp_41 ?_
      obtain ⟨q27, h28, hf⟩ := bd hf
      refine m_callV (As := [.int (41 : Int32)]) (rest := []) C hW hx0 (cX11_isSign_ok  hx0 h28) mlX11_276 (by decide) rfl hl.1 rfl (Nat.le_of_ble_eq_true rfl) (by omega) (Nat.le_of_ble_eq_true rfl) dX11_primary_67 (fun H locs hW => ?_)
      refine lv_if_ne (tgt := 78) C.1 C.2.1 dX11_primary_70 rfl (fun c29 => ?_) (fun c29 => ?_)
      · have hf := (if_neg c29).symm.trans hf
        exact kX11_primary_78 hde hRc_e  C x0 _ _ _ _ hx0 hW (lv_sub hl [0] rfl) hf
      · have hf := (if_pos c29).symm.trans hf
        refine lv_aload_n C.1 C.2.1 dX11_primary_73 rfl (lv_at hl 0 rfl) ?_
        refine lv_iconst C.1 C.2.1 dX11_primary_74 ic_1 ?_
        obtain ⟨q30, h31, hf⟩ := bd hf
        refine m_callV (As := [.int (1 : Int32)]) (rest := []) C hW hx0 (cX11_wrong_ok  hx0 h31) mlX11_226 (by decide) rfl hl.1 rfl (Nat.le_of_ble_eq_true rfl) (by omega) (Nat.le_of_ble_eq_true rfl) dX11_primary_75 (fun H locs hW => ?_)
        exact kX11_primary_78 hde hRc_e  C x0 _ _ _ _ hx0 hW (lv_sub hl [0] rfl) hf
  · have hf := (if_neg c21).symm.trans hf
    cases hf
    exact m_vret C hW dX11_primary_38

set_option maxRecDepth 100000 in
theorem cX11_primary_ok {l : Launch} {G : Gv} {L : List Nat} {Rc_e : Nat → MS → Option MS} {de : Nat} (hde : 40 ≤ de) (hRc_e : ∀ (a0 : Nat) (S q : MS), (a0 < shM.1 ∧ shM.2.1 a0 = 11) → Rc_e a0 S = some q → Mt l yX11_expression cX11_expression 1 none de G shM L S [.ref (ad L a0)] none q) {S : MS} {a0 : Nat} {q : MS} (ha0 : a0 < shM.1 ∧ shM.2.1 a0 = 11) (hf : fX11_primary Rc_e a0 S = some q) : Mt l yX11_primary cX11_primary 2 none (de + 1) G shM L S [.ref (ad L a0)] none q := by
  refine m_enter (lv := [(0, .ref (ad L a0))]) (plainFor_of_name (by decide)) (Nat.le_of_ble_eq_true rfl) rfl ?_
  intro p e s m below meth c A ls C hW hl
  unfold fX11_primary at hf
  refine lv_aload_n C.1 C.2.1 dX11_primary_0 rfl (lv_at hl 0 rfl) ?_
  refine m_geti C hW ha0 flX11_217 dX11_primary_1 ?_
  refine lv_if_eq (tgt := 8) C.1 C.2.1 dX11_primary_4 rfl (fun c32 => ?_) (fun c32 => ?_)
  · have hf := (if_pos c32).symm.trans hf
    refine lv_aload_n C.1 C.2.1 dX11_primary_8 rfl (lv_at hl 0 rfl) ?_
    refine lv_bipush C.1 C.2.1 dX11_primary_9 bp_40 ?_
    obtain ⟨q33, h34, hf⟩ := bd hf
    refine m_callV (As := [.int (40 : Int32)]) (rest := []) C hW ha0 (cX11_isSign_ok  ha0 h34) mlX11_276 (by decide) rfl hl.1 rfl (Nat.le_of_ble_eq_true rfl) (by omega) (Nat.le_of_ble_eq_true rfl) dX11_primary_11 (fun H locs hW => ?_)
    refine lv_if_eq (tgt := 101) C.1 C.2.1 dX11_primary_14 rfl (fun c35 => ?_) (fun c35 => ?_)
    · have hf := (if_pos c35).symm.trans hf
      refine lv_aload_n C.1 C.2.1 dX11_primary_101 rfl (lv_at hl 0 rfl) ?_
      refine m_geti C hW ha0 flX11_182 dX11_primary_102 ?_
      refine lv_iconst C.1 C.2.1 dX11_primary_105 ic_2 ?_
      refine lv_icmp_ne (tgt := 113) C.1 C.2.1 dX11_primary_106 rfl (fun c36 => ?_) (fun c36 => ?_)
      · have hf := (if_neg c36).symm.trans hf
        refine lv_iconst C.1 C.2.1 dX11_primary_113 ic_0 ?_
        exact kX11_primary_114 hde hRc_e  C a0 (0 : Int32) _ _ _ _ ha0 hW (lv_sub hl [0] rfl) hf
      · have hf := (if_pos c36).symm.trans hf
        refine lv_iconst C.1 C.2.1 dX11_primary_109 ic_1 ?_
        refine lv_goto (tgt := 114) C.1 C.2.1 dX11_primary_110 rfl ?_
        exact kX11_primary_114 hde hRc_e  C a0 (1 : Int32) _ _ _ _ ha0 hW (lv_sub hl [0] rfl) hf
    · have hf := (if_neg c35).symm.trans hf
      refine lv_aload_n C.1 C.2.1 dX11_primary_17 rfl (lv_at hl 0 rfl) ?_
      refine m_geti C hW ha0 flX11_315 dX11_primary_18 ?_
      refine lv_bipush C.1 C.2.1 dX11_primary_21 bp_8 ?_
      refine lv_icmp_ne (tgt := 31) C.1 C.2.1 dX11_primary_23 rfl (fun c37 => ?_) (fun c37 => ?_)
      · have hf := (if_neg c37).symm.trans hf
        exact kX11_primary_31 hde hRc_e  C a0 _ _ _ _ ha0 hW (lv_sub hl [0] rfl) hf
      · have hf := (if_pos c37).symm.trans hf
        refine lv_aload_n C.1 C.2.1 dX11_primary_26 rfl (lv_at hl 0 rfl) ?_
        refine lv_iconst C.1 C.2.1 dX11_primary_27 ic_2 ?_
        obtain ⟨q38, h39, hf⟩ := bd hf
        refine m_callV (As := [.int (2 : Int32)]) (rest := []) C hW ha0 (cX11_wrong_ok  ha0 h39) mlX11_226 (by decide) rfl hl.1 rfl (Nat.le_of_ble_eq_true rfl) (by omega) (Nat.le_of_ble_eq_true rfl) dX11_primary_28 (fun H locs hW => ?_)
        exact kX11_primary_31 hde hRc_e  C a0 _ _ _ _ ha0 hW (lv_sub hl [0] rfl) hf
  · have hf := (if_neg c32).symm.trans hf
    cases hf
    exact m_vret C hW dX11_primary_7

def fX11_product_22 (Rc_e : Nat → MS → Option MS) (K4 : Nat → MS → Option MS) (x0 : Nat) (S : MS) : Option MS := (fX11_knot  x0 S).bind fun q1 => (fX11_goOn  x0 q1).bind fun q3 => (fX11_primary Rc_e  x0 q3).bind fun q5 => (fX11_puts  x0 (2 : Int32) (gI S x0 33) q5).bind fun q7 => K4 x0 q7
def fX11_product_4 (Rc_e : Nat → MS → Option MS)  : Nat → Nat → MS → Option MS
  | 0, _, _ => none
  | n + 1, x0, S => (fX11_isSign  x0 (42 : Int32) S).bind fun q9 => (if q9 = (0 : Int32) then (fX11_isSign  x0 (47 : Int32) S).bind fun q12 => (if q12 = (0 : Int32) then some S else fX11_product_22 Rc_e (fX11_product_4 Rc_e  n) x0 S) else fX11_product_22 Rc_e (fX11_product_4 Rc_e  n) x0 S)
def fX11_product (Rc_e : Nat → MS → Option MS) (a0 : Nat) (S : MS) : Option MS := (fX11_primary Rc_e  a0 S).bind fun q15 => fX11_product_4 Rc_e  1000 a0 q15
set_option maxRecDepth 100000 in
theorem kX11_product_22 {p : Program} {l : Launch} {e : Env} {s : State} {m : MethodId} {av : Array Value} {below : List Frame} {meth : Method} {c : Code} {A : Nat → Prop} {G : Gv} {L : List Nat} {q : MS} {Rc_e : Nat → MS → Option MS} {de : Nat} (hde : 40 ≤ de) (hRc_e : ∀ (a0 : Nat) (S q : MS), (a0 < shM.1 ∧ shM.2.1 a0 = 11) → Rc_e a0 S = some q → Mt l yX11_expression cX11_expression 1 none de G shM L S [.ref (ad L a0)] none q) {K4 : Nat → MS → Option MS} (hK4 : ∀ (x0 : Nat) (S : MS) (H : Heap) (locs : List Loc) (ls : Array Slot), (x0 < shM.1 ∧ shM.2.1 x0 = 11) → mW G shM L S A s H locs → lv_has ls 2 [(0, .ref (ad L x0))] → K4 x0 S = some q → W p l e (rmd (de + 2)) s m av below meth c H locs 0 0 (MQ below (mQ G shM L q none A) av s 0 0 A) (F0 m 4 ls [])) (C : mC p s m av meth c cX11_product RX11 2 none) : ∀ (x0 : Nat) (S : MS) (H : Heap) (locs : List Loc) (ls : Array Slot), (x0 < shM.1 ∧ shM.2.1 x0 = 11) → mW G shM L S A s H locs → lv_has ls 2 [(0, .ref (ad L x0))] → fX11_product_22 Rc_e K4 x0 S = some q → W p l e (rmd (de + 2)) s m av below meth c H locs 0 0 (MQ below (mQ G shM L q none A) av s 0 0 A) (F0 m 22 ls []) := by
  intro x0 S H locs ls hx0 hW hl hf
  unfold fX11_product_22 at hf
  refine lv_aload_n C.1 C.2.1 dX11_product_22 rfl (lv_at hl 0 rfl) ?_
  refine m_geti C hW hx0 flX11_192 dX11_product_23 ?_
  refine lv_istore_n (lv' := [(1, .int (gI S x0 33)), (0, .ref (ad L x0))]) C.1 C.2.1 dX11_product_26 rfl hl (by decide) rfl (fun ls hl => ?_)
  refine lv_aload_n C.1 C.2.1 dX11_product_27 rfl (lv_at hl 1 rfl) ?_
  obtain ⟨q1, h2, hf⟩ := bd hf
  refine m_callV (As := []) (rest := []) C hW hx0 (cX11_knot_ok  hx0 h2) mlX11_294 (by decide) rfl hl.1 rfl (Nat.le_of_ble_eq_true rfl) (by omega) (Nat.le_of_ble_eq_true rfl) dX11_product_28 (fun H locs hW => ?_)
  refine lv_aload_n C.1 C.2.1 dX11_product_31 rfl (lv_at hl 1 rfl) ?_
  obtain ⟨q3, h4, hf⟩ := bd hf
  refine m_callV (As := []) (rest := []) C hW hx0 (cX11_goOn_ok  hx0 h4) mlX11_297 (by decide) rfl hl.1 rfl (Nat.le_of_ble_eq_true rfl) (by omega) (Nat.le_of_ble_eq_true rfl) dX11_product_32 (fun H locs hW => ?_)
  refine lv_aload_n C.1 C.2.1 dX11_product_35 rfl (lv_at hl 1 rfl) ?_
  obtain ⟨q5, h6, hf⟩ := bd hf
  refine m_callV (As := []) (rest := []) C hW hx0 (cX11_primary_ok hde hRc_e  hx0 h6) mlX11_312 (by decide) rfl hl.1 rfl (Nat.le_of_ble_eq_true rfl) (by omega) (Nat.le_of_ble_eq_true rfl) dX11_product_36 (fun H locs hW => ?_)
  refine lv_aload_n C.1 C.2.1 dX11_product_39 rfl (lv_at hl 1 rfl) ?_
  refine lv_iconst C.1 C.2.1 dX11_product_40 ic_2 ?_
  refine lv_iload_n C.1 C.2.1 dX11_product_41 rfl (lv_at hl 0 rfl) ?_
  obtain ⟨q7, h8, hf⟩ := bd hf
  refine m_callV (As := [.int (2 : Int32), .int (gI S x0 33)]) (rest := []) C hW hx0 (cX11_puts_ok  hx0 h8) mlX11_300 (by decide) rfl hl.1 rfl (Nat.le_of_ble_eq_true rfl) (by omega) (Nat.le_of_ble_eq_true rfl) dX11_product_42 (fun H locs hW => ?_)
  refine lv_goto (tgt := 4) C.1 C.2.1 dX11_product_45 rfl ?_
  exact hK4 x0 _ _ _ _ hx0 hW (lv_sub hl [1] rfl) hf

set_option maxRecDepth 100000 in
theorem kX11_product_4 {p : Program} {l : Launch} {e : Env} {s : State} {m : MethodId} {av : Array Value} {below : List Frame} {meth : Method} {c : Code} {A : Nat → Prop} {G : Gv} {L : List Nat} {q : MS} {Rc_e : Nat → MS → Option MS} {de : Nat} (hde : 40 ≤ de) (hRc_e : ∀ (a0 : Nat) (S q : MS), (a0 < shM.1 ∧ shM.2.1 a0 = 11) → Rc_e a0 S = some q → Mt l yX11_expression cX11_expression 1 none de G shM L S [.ref (ad L a0)] none q)  (C : mC p s m av meth c cX11_product RX11 2 none) : ∀ (n : Nat) (x0 : Nat) (S : MS) (H : Heap) (locs : List Loc) (ls : Array Slot), (x0 < shM.1 ∧ shM.2.1 x0 = 11) → mW G shM L S A s H locs → lv_has ls 2 [(0, .ref (ad L x0))] → fX11_product_4 Rc_e  n x0 S = some q → W p l e (rmd (de + 2)) s m av below meth c H locs 0 0 (MQ below (mQ G shM L q none A) av s 0 0 A) (F0 m 4 ls []) := by
  intro n
  induction n with
  | zero =>
    intro x0 S H locs ls hx0 hW hl hf
    rw [fX11_product_4] at hf
    cases hf
  | succ n ih =>
    intro x0 S H locs ls hx0 hW hl hf
    rw [fX11_product_4] at hf
    refine lv_aload_n C.1 C.2.1 dX11_product_4 rfl (lv_at hl 0 rfl) ?_
    refine lv_bipush C.1 C.2.1 dX11_product_5 bp_42 ?_
    obtain ⟨q9, h10, hf⟩ := bd hf
    refine m_callV (As := [.int (42 : Int32)]) (rest := []) C hW hx0 (cX11_isSign_ok  hx0 h10) mlX11_276 (by decide) rfl hl.1 rfl (Nat.le_of_ble_eq_true rfl) (by omega) (Nat.le_of_ble_eq_true rfl) dX11_product_7 (fun H locs hW => ?_)
    refine lv_if_ne (tgt := 22) C.1 C.2.1 dX11_product_10 rfl (fun c11 => ?_) (fun c11 => ?_)
    · have hf := (if_neg c11).symm.trans hf
      exact kX11_product_22 hde hRc_e ih C x0 _ _ _ _ hx0 hW (lv_sub hl [0] rfl) hf
    · have hf := (if_pos c11).symm.trans hf
      refine lv_aload_n C.1 C.2.1 dX11_product_13 rfl (lv_at hl 0 rfl) ?_
      refine lv_bipush C.1 C.2.1 dX11_product_14 bp_47 ?_
      obtain ⟨q12, h13, hf⟩ := bd hf
      refine m_callV (As := [.int (47 : Int32)]) (rest := []) C hW hx0 (cX11_isSign_ok  hx0 h13) mlX11_276 (by decide) rfl hl.1 rfl (Nat.le_of_ble_eq_true rfl) (by omega) (Nat.le_of_ble_eq_true rfl) dX11_product_16 (fun H locs hW => ?_)
      refine lv_if_eq (tgt := 48) C.1 C.2.1 dX11_product_19 rfl (fun c14 => ?_) (fun c14 => ?_)
      · have hf := (if_pos c14).symm.trans hf
        cases hf
        exact m_vret C hW dX11_product_48
      · have hf := (if_neg c14).symm.trans hf
        exact kX11_product_22 hde hRc_e ih C x0 _ _ _ _ hx0 hW (lv_sub hl [0] rfl) hf

set_option maxRecDepth 100000 in
theorem cX11_product_ok {l : Launch} {G : Gv} {L : List Nat} {Rc_e : Nat → MS → Option MS} {de : Nat} (hde : 40 ≤ de) (hRc_e : ∀ (a0 : Nat) (S q : MS), (a0 < shM.1 ∧ shM.2.1 a0 = 11) → Rc_e a0 S = some q → Mt l yX11_expression cX11_expression 1 none de G shM L S [.ref (ad L a0)] none q) {S : MS} {a0 : Nat} {q : MS} (ha0 : a0 < shM.1 ∧ shM.2.1 a0 = 11) (hf : fX11_product Rc_e a0 S = some q) : Mt l yX11_product cX11_product 2 none (de + 2) G shM L S [.ref (ad L a0)] none q := by
  refine m_enter (lv := [(0, .ref (ad L a0))]) (plainFor_of_name (by decide)) (Nat.le_of_ble_eq_true rfl) rfl ?_
  intro p e s m below meth c A ls C hW hl
  unfold fX11_product at hf
  refine lv_aload_n C.1 C.2.1 dX11_product_0 rfl (lv_at hl 0 rfl) ?_
  obtain ⟨q15, h16, hf⟩ := bd hf
  refine m_callV (As := []) (rest := []) C hW ha0 (cX11_primary_ok hde hRc_e  ha0 h16) mlX11_312 (by decide) rfl hl.1 rfl (Nat.le_of_ble_eq_true rfl) (by omega) (Nat.le_of_ble_eq_true rfl) dX11_product_1 (fun H locs hW => ?_)
  exact kX11_product_4 hde hRc_e  C 1000 a0 _ _ _ _ ha0 hW (lv_sub hl [0] rfl) hf

def fX11_sum_22 (Rc_e : Nat → MS → Option MS) (K4 : Nat → MS → Option MS) (x0 : Nat) (S : MS) : Option MS := (fX11_knot  x0 S).bind fun q1 => (fX11_goOn  x0 q1).bind fun q3 => (fX11_product Rc_e  x0 q3).bind fun q5 => (fX11_puts  x0 (2 : Int32) (gI S x0 33) q5).bind fun q7 => K4 x0 q7
def fX11_sum_4 (Rc_e : Nat → MS → Option MS)  : Nat → Nat → MS → Option MS
  | 0, _, _ => none
  | n + 1, x0, S => (fX11_isSign  x0 (43 : Int32) S).bind fun q9 => (if q9 = (0 : Int32) then (fX11_isSign  x0 (45 : Int32) S).bind fun q12 => (if q12 = (0 : Int32) then some S else fX11_sum_22 Rc_e (fX11_sum_4 Rc_e  n) x0 S) else fX11_sum_22 Rc_e (fX11_sum_4 Rc_e  n) x0 S)
def fX11_sum (Rc_e : Nat → MS → Option MS) (a0 : Nat) (S : MS) : Option MS := (fX11_product Rc_e  a0 S).bind fun q15 => fX11_sum_4 Rc_e  1000 a0 q15
set_option maxRecDepth 100000 in
theorem kX11_sum_22 {p : Program} {l : Launch} {e : Env} {s : State} {m : MethodId} {av : Array Value} {below : List Frame} {meth : Method} {c : Code} {A : Nat → Prop} {G : Gv} {L : List Nat} {q : MS} {Rc_e : Nat → MS → Option MS} {de : Nat} (hde : 40 ≤ de) (hRc_e : ∀ (a0 : Nat) (S q : MS), (a0 < shM.1 ∧ shM.2.1 a0 = 11) → Rc_e a0 S = some q → Mt l yX11_expression cX11_expression 1 none de G shM L S [.ref (ad L a0)] none q) {K4 : Nat → MS → Option MS} (hK4 : ∀ (x0 : Nat) (S : MS) (H : Heap) (locs : List Loc) (ls : Array Slot), (x0 < shM.1 ∧ shM.2.1 x0 = 11) → mW G shM L S A s H locs → lv_has ls 2 [(0, .ref (ad L x0))] → K4 x0 S = some q → W p l e (rmd (de + 3)) s m av below meth c H locs 0 0 (MQ below (mQ G shM L q none A) av s 0 0 A) (F0 m 4 ls [])) (C : mC p s m av meth c cX11_sum RX11 2 none) : ∀ (x0 : Nat) (S : MS) (H : Heap) (locs : List Loc) (ls : Array Slot), (x0 < shM.1 ∧ shM.2.1 x0 = 11) → mW G shM L S A s H locs → lv_has ls 2 [(0, .ref (ad L x0))] → fX11_sum_22 Rc_e K4 x0 S = some q → W p l e (rmd (de + 3)) s m av below meth c H locs 0 0 (MQ below (mQ G shM L q none A) av s 0 0 A) (F0 m 22 ls []) := by
  intro x0 S H locs ls hx0 hW hl hf
  unfold fX11_sum_22 at hf
  refine lv_aload_n C.1 C.2.1 dX11_sum_22 rfl (lv_at hl 0 rfl) ?_
  refine m_geti C hW hx0 flX11_192 dX11_sum_23 ?_
  refine lv_istore_n (lv' := [(1, .int (gI S x0 33)), (0, .ref (ad L x0))]) C.1 C.2.1 dX11_sum_26 rfl hl (by decide) rfl (fun ls hl => ?_)
  refine lv_aload_n C.1 C.2.1 dX11_sum_27 rfl (lv_at hl 1 rfl) ?_
  obtain ⟨q1, h2, hf⟩ := bd hf
  refine m_callV (As := []) (rest := []) C hW hx0 (cX11_knot_ok  hx0 h2) mlX11_294 (by decide) rfl hl.1 rfl (Nat.le_of_ble_eq_true rfl) (by omega) (Nat.le_of_ble_eq_true rfl) dX11_sum_28 (fun H locs hW => ?_)
  refine lv_aload_n C.1 C.2.1 dX11_sum_31 rfl (lv_at hl 1 rfl) ?_
  obtain ⟨q3, h4, hf⟩ := bd hf
  refine m_callV (As := []) (rest := []) C hW hx0 (cX11_goOn_ok  hx0 h4) mlX11_297 (by decide) rfl hl.1 rfl (Nat.le_of_ble_eq_true rfl) (by omega) (Nat.le_of_ble_eq_true rfl) dX11_sum_32 (fun H locs hW => ?_)
  refine lv_aload_n C.1 C.2.1 dX11_sum_35 rfl (lv_at hl 1 rfl) ?_
  obtain ⟨q5, h6, hf⟩ := bd hf
  refine m_callV (As := []) (rest := []) C hW hx0 (cX11_product_ok hde hRc_e  hx0 h6) mlX11_309 (by decide) rfl hl.1 rfl (Nat.le_of_ble_eq_true rfl) (by omega) (Nat.le_of_ble_eq_true rfl) dX11_sum_36 (fun H locs hW => ?_)
  refine lv_aload_n C.1 C.2.1 dX11_sum_39 rfl (lv_at hl 1 rfl) ?_
  refine lv_iconst C.1 C.2.1 dX11_sum_40 ic_2 ?_
  refine lv_iload_n C.1 C.2.1 dX11_sum_41 rfl (lv_at hl 0 rfl) ?_
  obtain ⟨q7, h8, hf⟩ := bd hf
  refine m_callV (As := [.int (2 : Int32), .int (gI S x0 33)]) (rest := []) C hW hx0 (cX11_puts_ok  hx0 h8) mlX11_300 (by decide) rfl hl.1 rfl (Nat.le_of_ble_eq_true rfl) (by omega) (Nat.le_of_ble_eq_true rfl) dX11_sum_42 (fun H locs hW => ?_)
  refine lv_goto (tgt := 4) C.1 C.2.1 dX11_sum_45 rfl ?_
  exact hK4 x0 _ _ _ _ hx0 hW (lv_sub hl [1] rfl) hf

set_option maxRecDepth 100000 in
theorem kX11_sum_4 {p : Program} {l : Launch} {e : Env} {s : State} {m : MethodId} {av : Array Value} {below : List Frame} {meth : Method} {c : Code} {A : Nat → Prop} {G : Gv} {L : List Nat} {q : MS} {Rc_e : Nat → MS → Option MS} {de : Nat} (hde : 40 ≤ de) (hRc_e : ∀ (a0 : Nat) (S q : MS), (a0 < shM.1 ∧ shM.2.1 a0 = 11) → Rc_e a0 S = some q → Mt l yX11_expression cX11_expression 1 none de G shM L S [.ref (ad L a0)] none q)  (C : mC p s m av meth c cX11_sum RX11 2 none) : ∀ (n : Nat) (x0 : Nat) (S : MS) (H : Heap) (locs : List Loc) (ls : Array Slot), (x0 < shM.1 ∧ shM.2.1 x0 = 11) → mW G shM L S A s H locs → lv_has ls 2 [(0, .ref (ad L x0))] → fX11_sum_4 Rc_e  n x0 S = some q → W p l e (rmd (de + 3)) s m av below meth c H locs 0 0 (MQ below (mQ G shM L q none A) av s 0 0 A) (F0 m 4 ls []) := by
  intro n
  induction n with
  | zero =>
    intro x0 S H locs ls hx0 hW hl hf
    rw [fX11_sum_4] at hf
    cases hf
  | succ n ih =>
    intro x0 S H locs ls hx0 hW hl hf
    rw [fX11_sum_4] at hf
    refine lv_aload_n C.1 C.2.1 dX11_sum_4 rfl (lv_at hl 0 rfl) ?_
    refine lv_bipush C.1 C.2.1 dX11_sum_5 bp_43 ?_
    obtain ⟨q9, h10, hf⟩ := bd hf
    refine m_callV (As := [.int (43 : Int32)]) (rest := []) C hW hx0 (cX11_isSign_ok  hx0 h10) mlX11_276 (by decide) rfl hl.1 rfl (Nat.le_of_ble_eq_true rfl) (by omega) (Nat.le_of_ble_eq_true rfl) dX11_sum_7 (fun H locs hW => ?_)
    refine lv_if_ne (tgt := 22) C.1 C.2.1 dX11_sum_10 rfl (fun c11 => ?_) (fun c11 => ?_)
    · have hf := (if_neg c11).symm.trans hf
      exact kX11_sum_22 hde hRc_e ih C x0 _ _ _ _ hx0 hW (lv_sub hl [0] rfl) hf
    · have hf := (if_pos c11).symm.trans hf
      refine lv_aload_n C.1 C.2.1 dX11_sum_13 rfl (lv_at hl 0 rfl) ?_
      refine lv_bipush C.1 C.2.1 dX11_sum_14 bp_45 ?_
      obtain ⟨q12, h13, hf⟩ := bd hf
      refine m_callV (As := [.int (45 : Int32)]) (rest := []) C hW hx0 (cX11_isSign_ok  hx0 h13) mlX11_276 (by decide) rfl hl.1 rfl (Nat.le_of_ble_eq_true rfl) (by omega) (Nat.le_of_ble_eq_true rfl) dX11_sum_16 (fun H locs hW => ?_)
      refine lv_if_eq (tgt := 48) C.1 C.2.1 dX11_sum_19 rfl (fun c14 => ?_) (fun c14 => ?_)
      · have hf := (if_pos c14).symm.trans hf
        cases hf
        exact m_vret C hW dX11_sum_48
      · have hf := (if_neg c14).symm.trans hf
        exact kX11_sum_22 hde hRc_e ih C x0 _ _ _ _ hx0 hW (lv_sub hl [0] rfl) hf

set_option maxRecDepth 100000 in
theorem cX11_sum_ok {l : Launch} {G : Gv} {L : List Nat} {Rc_e : Nat → MS → Option MS} {de : Nat} (hde : 40 ≤ de) (hRc_e : ∀ (a0 : Nat) (S q : MS), (a0 < shM.1 ∧ shM.2.1 a0 = 11) → Rc_e a0 S = some q → Mt l yX11_expression cX11_expression 1 none de G shM L S [.ref (ad L a0)] none q) {S : MS} {a0 : Nat} {q : MS} (ha0 : a0 < shM.1 ∧ shM.2.1 a0 = 11) (hf : fX11_sum Rc_e a0 S = some q) : Mt l yX11_sum cX11_sum 2 none (de + 3) G shM L S [.ref (ad L a0)] none q := by
  refine m_enter (lv := [(0, .ref (ad L a0))]) (plainFor_of_name (by decide)) (Nat.le_of_ble_eq_true rfl) rfl ?_
  intro p e s m below meth c A ls C hW hl
  unfold fX11_sum at hf
  refine lv_aload_n C.1 C.2.1 dX11_sum_0 rfl (lv_at hl 0 rfl) ?_
  obtain ⟨q15, h16, hf⟩ := bd hf
  refine m_callV (As := []) (rest := []) C hW ha0 (cX11_product_ok hde hRc_e  ha0 h16) mlX11_309 (by decide) rfl hl.1 rfl (Nat.le_of_ble_eq_true rfl) (by omega) (Nat.le_of_ble_eq_true rfl) dX11_sum_1 (fun H locs hW => ?_)
  exact kX11_sum_4 hde hRc_e  C 1000 a0 _ _ _ _ ha0 hW (lv_sub hl [0] rfl) hf

def fX11_negation_87 (Rc_e : Nat → MS → Option MS) (Rc_n : Nat → MS → Option MS)  (x0 : Nat) (S : MS) : Option MS := (fX11_knot  x0 S).bind fun q1 => (fX11_goOn  x0 q1).bind fun q3 => (fX11_sum Rc_e  x0 q3).bind fun q5 => (fX11_puts  x0 (2 : Int32) (gI S x0 33) q5).bind fun q7 => some q7
def fX11_negation_B (Rc_e : Nat → MS → Option MS) (Rc_n : Nat → MS → Option MS) (a0 : Nat) (S : MS) : Option MS := (fX11_isWord  a0 (16 : Int32) S).bind fun q9 => (if q9 = (0 : Int32) then (fX11_sum Rc_e  a0 S).bind fun q12 => (if gI q12 a0 34 = (0 : Int32) then (if gI q12 a0 32 = (3 : Int32) then (if gI q12 a0 33 = (60 : Int32) then fX11_negation_87 Rc_e Rc_n  a0 q12 else (if gI q12 a0 33 = (62 : Int32) then fX11_negation_87 Rc_e Rc_n  a0 q12 else (if gI q12 a0 33 = (61 : Int32) then fX11_negation_87 Rc_e Rc_n  a0 q12 else (if (256 : Int32) ≤ (gI q12 a0 33) then fX11_negation_87 Rc_e Rc_n  a0 q12 else some q12)))) else some q12) else some q12) else (fX11_knot  a0 S).bind fun q20 => (fX11_goOn  a0 q20).bind fun q22 => (Rc_n a0 q22).bind fun q24 => (fX11_puts  a0 (2 : Int32) (260 : Int32) q24).bind fun q26 => some q26)
set_option maxRecDepth 100000 in
theorem kX11_negation_87 {p : Program} {l : Launch} {e : Env} {s : State} {m : MethodId} {av : Array Value} {below : List Frame} {meth : Method} {c : Code} {A : Nat → Prop} {G : Gv} {L : List Nat} {q : MS} {Rc_e : Nat → MS → Option MS} {Rc_n : Nat → MS → Option MS} {de : Nat} (hde : 40 ≤ de) (hRc_e : ∀ (a0 : Nat) (S q : MS), (a0 < shM.1 ∧ shM.2.1 a0 = 11) → Rc_e a0 S = some q → Mt l yX11_expression cX11_expression 1 none de G shM L S [.ref (ad L a0)] none q) {dn : Nat} (hdn : de + 3 ≤ dn) (hRc_n : ∀ (a0 : Nat) (S q : MS), (a0 < shM.1 ∧ shM.2.1 a0 = 11) → Rc_n a0 S = some q → Mt l yX11_negation cX11_negation 2 none dn G shM L S [.ref (ad L a0)] none q)  (C : mC p s m av meth c cX11_negation RX11 2 none) : ∀ (x0 : Nat) (S : MS) (H : Heap) (locs : List Loc) (ls : Array Slot), (x0 < shM.1 ∧ shM.2.1 x0 = 11) → mW G shM L S A s H locs → lv_has ls 2 [(0, .ref (ad L x0))] → fX11_negation_87 Rc_e Rc_n  x0 S = some q → W p l e (rmd (dn + 1)) s m av below meth c H locs 0 0 (MQ below (mQ G shM L q none A) av s 0 0 A) (F0 m 87 ls []) := by
  intro x0 S H locs ls hx0 hW hl hf
  unfold fX11_negation_87 at hf
  refine lv_aload_n C.1 C.2.1 dX11_negation_87 rfl (lv_at hl 0 rfl) ?_
  refine m_geti C hW hx0 flX11_192 dX11_negation_88 ?_
  refine lv_istore_n (lv' := [(1, .int (gI S x0 33)), (0, .ref (ad L x0))]) C.1 C.2.1 dX11_negation_91 rfl hl (by decide) rfl (fun ls hl => ?_)
  refine lv_aload_n C.1 C.2.1 dX11_negation_92 rfl (lv_at hl 1 rfl) ?_
  obtain ⟨q1, h2, hf⟩ := bd hf
  refine m_callV (As := []) (rest := []) C hW hx0 (cX11_knot_ok  hx0 h2) mlX11_294 (by decide) rfl hl.1 rfl (Nat.le_of_ble_eq_true rfl) (by omega) (Nat.le_of_ble_eq_true rfl) dX11_negation_93 (fun H locs hW => ?_)
  refine lv_aload_n C.1 C.2.1 dX11_negation_96 rfl (lv_at hl 1 rfl) ?_
  obtain ⟨q3, h4, hf⟩ := bd hf
  refine m_callV (As := []) (rest := []) C hW hx0 (cX11_goOn_ok  hx0 h4) mlX11_297 (by decide) rfl hl.1 rfl (Nat.le_of_ble_eq_true rfl) (by omega) (Nat.le_of_ble_eq_true rfl) dX11_negation_97 (fun H locs hW => ?_)
  refine lv_aload_n C.1 C.2.1 dX11_negation_100 rfl (lv_at hl 1 rfl) ?_
  obtain ⟨q5, h6, hf⟩ := bd hf
  refine m_callV (As := []) (rest := []) C hW hx0 (cX11_sum_ok hde hRc_e  hx0 h6) mlX11_306 (by decide) rfl hl.1 rfl (Nat.le_of_ble_eq_true rfl) (by omega) (Nat.le_of_ble_eq_true rfl) dX11_negation_101 (fun H locs hW => ?_)
  refine lv_aload_n C.1 C.2.1 dX11_negation_104 rfl (lv_at hl 1 rfl) ?_
  refine lv_iconst C.1 C.2.1 dX11_negation_105 ic_2 ?_
  refine lv_iload_n C.1 C.2.1 dX11_negation_106 rfl (lv_at hl 0 rfl) ?_
  obtain ⟨q7, h8, hf⟩ := bd hf
  refine m_callV (As := [.int (2 : Int32), .int (gI S x0 33)]) (rest := []) C hW hx0 (cX11_puts_ok  hx0 h8) mlX11_300 (by decide) rfl hl.1 rfl (Nat.le_of_ble_eq_true rfl) (by omega) (Nat.le_of_ble_eq_true rfl) dX11_negation_107 (fun H locs hW => ?_)
  cases hf
  exact m_vret C hW dX11_negation_110

set_option maxRecDepth 100000 in
theorem cX11_negation_B_ok {l : Launch} {G : Gv} {L : List Nat} {Rc_e : Nat → MS → Option MS} {Rc_n : Nat → MS → Option MS} {de : Nat} (hde : 40 ≤ de) (hRc_e : ∀ (a0 : Nat) (S q : MS), (a0 < shM.1 ∧ shM.2.1 a0 = 11) → Rc_e a0 S = some q → Mt l yX11_expression cX11_expression 1 none de G shM L S [.ref (ad L a0)] none q) {dn : Nat} (hdn : de + 3 ≤ dn) (hRc_n : ∀ (a0 : Nat) (S q : MS), (a0 < shM.1 ∧ shM.2.1 a0 = 11) → Rc_n a0 S = some q → Mt l yX11_negation cX11_negation 2 none dn G shM L S [.ref (ad L a0)] none q) {S : MS} {a0 : Nat} {q : MS} (ha0 : a0 < shM.1 ∧ shM.2.1 a0 = 11) (hf : fX11_negation_B Rc_e Rc_n a0 S = some q) : Mt l yX11_negation cX11_negation 2 none (dn + 1) G shM L S [.ref (ad L a0)] none q := by
  refine m_enter (lv := [(0, .ref (ad L a0))]) (plainFor_of_name (by decide)) (Nat.le_of_ble_eq_true rfl) rfl ?_
  intro p e s m below meth c A ls C hW hl
  unfold fX11_negation_B at hf
  refine lv_aload_n C.1 C.2.1 dX11_negation_0 rfl (lv_at hl 0 rfl) ?_
  refine lv_bipush C.1 C.2.1 dX11_negation_1 bp_16 ?_
  obtain ⟨q9, h10, hf⟩ := bd hf
  refine m_callV (As := [.int (16 : Int32)]) (rest := []) C hW ha0 (cX11_isWord_ok  ha0 h10) mlX11_291 (by decide) rfl hl.1 rfl (Nat.le_of_ble_eq_true rfl) (by omega) (Nat.le_of_ble_eq_true rfl) dX11_negation_3 (fun H locs hW => ?_)
  refine lv_if_eq (tgt := 30) C.1 C.2.1 dX11_negation_6 rfl (fun c11 => ?_) (fun c11 => ?_)
  · have hf := (if_pos c11).symm.trans hf
    refine lv_aload_n C.1 C.2.1 dX11_negation_30 rfl (lv_at hl 0 rfl) ?_
    obtain ⟨q12, h13, hf⟩ := bd hf
    refine m_callV (As := []) (rest := []) C hW ha0 (cX11_sum_ok hde hRc_e  ha0 h13) mlX11_306 (by decide) rfl hl.1 rfl (Nat.le_of_ble_eq_true rfl) (by omega) (Nat.le_of_ble_eq_true rfl) dX11_negation_31 (fun H locs hW => ?_)
    refine lv_aload_n C.1 C.2.1 dX11_negation_34 rfl (lv_at hl 0 rfl) ?_
    refine m_geti C hW ha0 flX11_217 dX11_negation_35 ?_
    refine lv_if_ne (tgt := 86) C.1 C.2.1 dX11_negation_38 rfl (fun c14 => ?_) (fun c14 => ?_)
    · have hf := (if_neg c14).symm.trans hf
      cases hf
      exact m_vret C hW dX11_negation_86
    · have hf := (if_pos c14).symm.trans hf
      refine lv_aload_n C.1 C.2.1 dX11_negation_41 rfl (lv_at hl 0 rfl) ?_
      refine m_geti C hW ha0 flX11_182 dX11_negation_42 ?_
      refine lv_iconst C.1 C.2.1 dX11_negation_45 ic_3 ?_
      refine lv_icmp_ne (tgt := 86) C.1 C.2.1 dX11_negation_46 rfl (fun c15 => ?_) (fun c15 => ?_)
      · have hf := (if_neg c15).symm.trans hf
        cases hf
        exact m_vret C hW dX11_negation_86
      · have hf := (if_pos c15).symm.trans hf
        refine lv_aload_n C.1 C.2.1 dX11_negation_49 rfl (lv_at hl 0 rfl) ?_
        refine m_geti C hW ha0 flX11_192 dX11_negation_50 ?_
        refine lv_bipush C.1 C.2.1 dX11_negation_53 bp_60 ?_
        refine lv_icmp_eq (tgt := 87) C.1 C.2.1 dX11_negation_55 rfl (fun c16 => ?_) (fun c16 => ?_)
        · have hf := (if_pos c16).symm.trans hf
          exact kX11_negation_87 hde hRc_e hdn hRc_n  C a0 _ _ _ _ ha0 hW (lv_sub hl [0] rfl) hf
        · have hf := (if_neg c16).symm.trans hf
          refine lv_aload_n C.1 C.2.1 dX11_negation_58 rfl (lv_at hl 0 rfl) ?_
          refine m_geti C hW ha0 flX11_192 dX11_negation_59 ?_
          refine lv_bipush C.1 C.2.1 dX11_negation_62 bp_62 ?_
          refine lv_icmp_eq (tgt := 87) C.1 C.2.1 dX11_negation_64 rfl (fun c17 => ?_) (fun c17 => ?_)
          · have hf := (if_pos c17).symm.trans hf
            exact kX11_negation_87 hde hRc_e hdn hRc_n  C a0 _ _ _ _ ha0 hW (lv_sub hl [0] rfl) hf
          · have hf := (if_neg c17).symm.trans hf
            refine lv_aload_n C.1 C.2.1 dX11_negation_67 rfl (lv_at hl 0 rfl) ?_
            refine m_geti C hW ha0 flX11_192 dX11_negation_68 ?_
            refine lv_bipush C.1 C.2.1 dX11_negation_71 bp_61 ?_
            refine lv_icmp_eq (tgt := 87) C.1 C.2.1 dX11_negation_73 rfl (fun c18 => ?_) (fun c18 => ?_)
            · have hf := (if_pos c18).symm.trans hf
              exact kX11_negation_87 hde hRc_e hdn hRc_n  C a0 _ _ _ _ ha0 hW (lv_sub hl [0] rfl) hf
            · have hf := (if_neg c18).symm.trans hf
              refine lv_aload_n C.1 C.2.1 dX11_negation_76 rfl (lv_at hl 0 rfl) ?_
              refine m_geti C hW ha0 flX11_192 dX11_negation_77 ?_
              refine lv_sipush C.1 C.2.1 dX11_negation_80 sp_256 ?_
              refine lv_icmp_ge (tgt := 87) C.1 C.2.1 dX11_negation_83 rfl (fun c19 => ?_) (fun c19 => ?_)
              · have hf := (if_pos c19).symm.trans hf
                exact kX11_negation_87 hde hRc_e hdn hRc_n  C a0 _ _ _ _ ha0 hW (lv_sub hl [0] rfl) hf
              · have hf := (if_neg c19).symm.trans hf
                cases hf
                exact m_vret C hW dX11_negation_86
  · have hf := (if_neg c11).symm.trans hf
    refine lv_aload_n C.1 C.2.1 dX11_negation_9 rfl (lv_at hl 0 rfl) ?_
    obtain ⟨q20, h21, hf⟩ := bd hf
    refine m_callV (As := []) (rest := []) C hW ha0 (cX11_knot_ok  ha0 h21) mlX11_294 (by decide) rfl hl.1 rfl (Nat.le_of_ble_eq_true rfl) (by omega) (Nat.le_of_ble_eq_true rfl) dX11_negation_10 (fun H locs hW => ?_)
    refine lv_aload_n C.1 C.2.1 dX11_negation_13 rfl (lv_at hl 0 rfl) ?_
    obtain ⟨q22, h23, hf⟩ := bd hf
    refine m_callV (As := []) (rest := []) C hW ha0 (cX11_goOn_ok  ha0 h23) mlX11_297 (by decide) rfl hl.1 rfl (Nat.le_of_ble_eq_true rfl) (by omega) (Nat.le_of_ble_eq_true rfl) dX11_negation_14 (fun H locs hW => ?_)
    refine lv_aload_n C.1 C.2.1 dX11_negation_17 rfl (lv_at hl 0 rfl) ?_
    obtain ⟨q24, h25, hf⟩ := bd hf
    refine m_callV (As := []) (rest := []) C hW ha0 (hRc_n a0 q22 q24 ha0 h25) mlX11_303 (by decide) rfl hl.1 rfl (Nat.le_of_ble_eq_true rfl) (by omega) (Nat.le_of_ble_eq_true rfl) dX11_negation_18 (fun H locs hW => ?_)
    refine lv_aload_n C.1 C.2.1 dX11_negation_21 rfl (lv_at hl 0 rfl) ?_
    refine lv_iconst C.1 C.2.1 dX11_negation_22 ic_2 ?_
    refine lv_sipush C.1 C.2.1 dX11_negation_23 sp_260 ?_
    obtain ⟨q26, h27, hf⟩ := bd hf
    refine m_callV (As := [.int (2 : Int32), .int (260 : Int32)]) (rest := []) C hW ha0 (cX11_puts_ok  ha0 h27) mlX11_300 (by decide) rfl hl.1 rfl (Nat.le_of_ble_eq_true rfl) (by omega) (Nat.le_of_ble_eq_true rfl) dX11_negation_26 (fun H locs hW => ?_)
    cases hf
    exact m_vret C hW dX11_negation_29

def fX11_negN (Rc_e : Nat → MS → Option MS) : Nat → Nat → MS → Option MS
  | 0, _, _ => none
  | n + 1, a0, S => fX11_negation_B Rc_e (fX11_negN Rc_e n) a0 S
def fX11_negation (Rc_e : Nat → MS → Option MS) (a0 : Nat) (S : MS) : Option MS := fX11_negN Rc_e 80 a0 S
theorem cX11_negN_ok {l : Launch} {G : Gv} {L : List Nat} {Rc_e : Nat → MS → Option MS} {de : Nat} (hde : 40 ≤ de) (hRc_e : ∀ (a0 : Nat) (S q : MS), (a0 < shM.1 ∧ shM.2.1 a0 = 11) → Rc_e a0 S = some q → Mt l yX11_expression cX11_expression 1 none de G shM L S [.ref (ad L a0)] none q) : ∀ (n : Nat) (a0 : Nat) (S q : MS), (a0 < shM.1 ∧ shM.2.1 a0 = 11) → fX11_negN Rc_e n a0 S = some q → Mt l yX11_negation cX11_negation 2 none (de + 4 + n) G shM L S [.ref (ad L a0)] none q := by
  intro n
  induction n with
  | zero => intro a0 S q _ hf; rw [fX11_negN] at hf; cases hf
  | succ n ih => intro a0 S q h hf; rw [fX11_negN] at hf; exact cX11_negation_B_ok (dn := de + 4 + n) hde hRc_e (by omega) ih h hf
theorem cX11_negation_ok {l : Launch} {G : Gv} {L : List Nat} {Rc_e : Nat → MS → Option MS} {de : Nat} (hde : 40 ≤ de) (hRc_e : ∀ (a0 : Nat) (S q : MS), (a0 < shM.1 ∧ shM.2.1 a0 = 11) → Rc_e a0 S = some q → Mt l yX11_expression cX11_expression 1 none de G shM L S [.ref (ad L a0)] none q) {S : MS} {a0 : Nat} {q : MS} (ha0 : a0 < shM.1 ∧ shM.2.1 a0 = 11) (hf : fX11_negation Rc_e a0 S = some q) : Mt l yX11_negation cX11_negation 2 none (de + 84) G shM L S [.ref (ad L a0)] none q := cX11_negN_ok hde hRc_e 80 a0 S q ha0 hf

def fX11_conjunction_4 (Rc_e : Nat → MS → Option MS)  : Nat → Nat → MS → Option MS
  | 0, _, _ => none
  | n + 1, x0, S => (fX11_isWord  x0 (15 : Int32) S).bind fun q1 => (if q1 = (0 : Int32) then some S else (fX11_knot  x0 S).bind fun q4 => (fX11_goOn  x0 q4).bind fun q6 => (fX11_negation Rc_e  x0 q6).bind fun q8 => (fX11_puts  x0 (2 : Int32) (261 : Int32) q8).bind fun q10 => (fX11_conjunction_4 Rc_e  n) x0 q10)
def fX11_conjunction (Rc_e : Nat → MS → Option MS) (a0 : Nat) (S : MS) : Option MS := (fX11_negation Rc_e  a0 S).bind fun q12 => fX11_conjunction_4 Rc_e  1000 a0 q12
set_option maxRecDepth 100000 in
theorem kX11_conjunction_4 {p : Program} {l : Launch} {e : Env} {s : State} {m : MethodId} {av : Array Value} {below : List Frame} {meth : Method} {c : Code} {A : Nat → Prop} {G : Gv} {L : List Nat} {q : MS} {Rc_e : Nat → MS → Option MS} {de : Nat} (hde : 40 ≤ de) (hRc_e : ∀ (a0 : Nat) (S q : MS), (a0 < shM.1 ∧ shM.2.1 a0 = 11) → Rc_e a0 S = some q → Mt l yX11_expression cX11_expression 1 none de G shM L S [.ref (ad L a0)] none q)  (C : mC p s m av meth c cX11_conjunction RX11 1 none) : ∀ (n : Nat) (x0 : Nat) (S : MS) (H : Heap) (locs : List Loc) (ls : Array Slot), (x0 < shM.1 ∧ shM.2.1 x0 = 11) → mW G shM L S A s H locs → lv_has ls 1 [(0, .ref (ad L x0))] → fX11_conjunction_4 Rc_e  n x0 S = some q → W p l e (rmd (de + 85)) s m av below meth c H locs 0 0 (MQ below (mQ G shM L q none A) av s 0 0 A) (F0 m 4 ls []) := by
  intro n
  induction n with
  | zero =>
    intro x0 S H locs ls hx0 hW hl hf
    rw [fX11_conjunction_4] at hf
    cases hf
  | succ n ih =>
    intro x0 S H locs ls hx0 hW hl hf
    rw [fX11_conjunction_4] at hf
    refine lv_aload_n C.1 C.2.1 dX11_conjunction_4 rfl (lv_at hl 0 rfl) ?_
    refine lv_bipush C.1 C.2.1 dX11_conjunction_5 bp_15 ?_
    obtain ⟨q1, h2, hf⟩ := bd hf
    refine m_callV (As := [.int (15 : Int32)]) (rest := []) C hW hx0 (cX11_isWord_ok  hx0 h2) mlX11_291 (by decide) rfl hl.1 rfl (Nat.le_of_ble_eq_true rfl) (by omega) (Nat.le_of_ble_eq_true rfl) dX11_conjunction_7 (fun H locs hW => ?_)
    refine lv_if_eq (tgt := 36) C.1 C.2.1 dX11_conjunction_10 rfl (fun c3 => ?_) (fun c3 => ?_)
    · have hf := (if_pos c3).symm.trans hf
      cases hf
      exact m_vret C hW dX11_conjunction_36
    · have hf := (if_neg c3).symm.trans hf
      refine lv_aload_n C.1 C.2.1 dX11_conjunction_13 rfl (lv_at hl 0 rfl) ?_
      obtain ⟨q4, h5, hf⟩ := bd hf
      refine m_callV (As := []) (rest := []) C hW hx0 (cX11_knot_ok  hx0 h5) mlX11_294 (by decide) rfl hl.1 rfl (Nat.le_of_ble_eq_true rfl) (by omega) (Nat.le_of_ble_eq_true rfl) dX11_conjunction_14 (fun H locs hW => ?_)
      refine lv_aload_n C.1 C.2.1 dX11_conjunction_17 rfl (lv_at hl 0 rfl) ?_
      obtain ⟨q6, h7, hf⟩ := bd hf
      refine m_callV (As := []) (rest := []) C hW hx0 (cX11_goOn_ok  hx0 h7) mlX11_297 (by decide) rfl hl.1 rfl (Nat.le_of_ble_eq_true rfl) (by omega) (Nat.le_of_ble_eq_true rfl) dX11_conjunction_18 (fun H locs hW => ?_)
      refine lv_aload_n C.1 C.2.1 dX11_conjunction_21 rfl (lv_at hl 0 rfl) ?_
      obtain ⟨q8, h9, hf⟩ := bd hf
      refine m_callV (As := []) (rest := []) C hW hx0 (cX11_negation_ok hde hRc_e  hx0 h9) mlX11_303 (by decide) rfl hl.1 rfl (Nat.le_of_ble_eq_true rfl) (by omega) (Nat.le_of_ble_eq_true rfl) dX11_conjunction_22 (fun H locs hW => ?_)
      refine lv_aload_n C.1 C.2.1 dX11_conjunction_25 rfl (lv_at hl 0 rfl) ?_
      refine lv_iconst C.1 C.2.1 dX11_conjunction_26 ic_2 ?_
      refine lv_sipush C.1 C.2.1 dX11_conjunction_27 sp_261 ?_
      obtain ⟨q10, h11, hf⟩ := bd hf
      refine m_callV (As := [.int (2 : Int32), .int (261 : Int32)]) (rest := []) C hW hx0 (cX11_puts_ok  hx0 h11) mlX11_300 (by decide) rfl hl.1 rfl (Nat.le_of_ble_eq_true rfl) (by omega) (Nat.le_of_ble_eq_true rfl) dX11_conjunction_30 (fun H locs hW => ?_)
      refine lv_goto (tgt := 4) C.1 C.2.1 dX11_conjunction_33 rfl ?_
      exact ih x0 _ _ _ _ hx0 hW (lv_sub hl [0] rfl) hf

set_option maxRecDepth 100000 in
theorem cX11_conjunction_ok {l : Launch} {G : Gv} {L : List Nat} {Rc_e : Nat → MS → Option MS} {de : Nat} (hde : 40 ≤ de) (hRc_e : ∀ (a0 : Nat) (S q : MS), (a0 < shM.1 ∧ shM.2.1 a0 = 11) → Rc_e a0 S = some q → Mt l yX11_expression cX11_expression 1 none de G shM L S [.ref (ad L a0)] none q) {S : MS} {a0 : Nat} {q : MS} (ha0 : a0 < shM.1 ∧ shM.2.1 a0 = 11) (hf : fX11_conjunction Rc_e a0 S = some q) : Mt l yX11_conjunction cX11_conjunction 1 none (de + 85) G shM L S [.ref (ad L a0)] none q := by
  refine m_enter (lv := [(0, .ref (ad L a0))]) (plainFor_of_name (by decide)) (Nat.le_of_ble_eq_true rfl) rfl ?_
  intro p e s m below meth c A ls C hW hl
  unfold fX11_conjunction at hf
  refine lv_aload_n C.1 C.2.1 dX11_conjunction_0 rfl (lv_at hl 0 rfl) ?_
  obtain ⟨q12, h13, hf⟩ := bd hf
  refine m_callV (As := []) (rest := []) C hW ha0 (cX11_negation_ok hde hRc_e  ha0 h13) mlX11_303 (by decide) rfl hl.1 rfl (Nat.le_of_ble_eq_true rfl) (by omega) (Nat.le_of_ble_eq_true rfl) dX11_conjunction_1 (fun H locs hW => ?_)
  exact kX11_conjunction_4 hde hRc_e  C 1000 a0 _ _ _ _ ha0 hW (lv_sub hl [0] rfl) hf

def fX11_expression_4 (Rc_e : Nat → MS → Option MS)  : Nat → Nat → MS → Option MS
  | 0, _, _ => none
  | n + 1, x0, S => (fX11_isWord  x0 (14 : Int32) S).bind fun q1 => (if q1 = (0 : Int32) then some S else (fX11_knot  x0 S).bind fun q4 => (fX11_goOn  x0 q4).bind fun q6 => (fX11_conjunction Rc_e  x0 q6).bind fun q8 => (fX11_puts  x0 (2 : Int32) (262 : Int32) q8).bind fun q10 => (fX11_expression_4 Rc_e  n) x0 q10)
def fX11_expression_B (Rc_e : Nat → MS → Option MS) (a0 : Nat) (S : MS) : Option MS := (fX11_conjunction Rc_e  a0 S).bind fun q12 => fX11_expression_4 Rc_e  1000 a0 q12
set_option maxRecDepth 100000 in
theorem kX11_expression_4 {p : Program} {l : Launch} {e : Env} {s : State} {m : MethodId} {av : Array Value} {below : List Frame} {meth : Method} {c : Code} {A : Nat → Prop} {G : Gv} {L : List Nat} {q : MS} {Rc_e : Nat → MS → Option MS} {de : Nat} (hde : 40 ≤ de) (hRc_e : ∀ (a0 : Nat) (S q : MS), (a0 < shM.1 ∧ shM.2.1 a0 = 11) → Rc_e a0 S = some q → Mt l yX11_expression cX11_expression 1 none de G shM L S [.ref (ad L a0)] none q)  (C : mC p s m av meth c cX11_expression RX11 1 none) : ∀ (n : Nat) (x0 : Nat) (S : MS) (H : Heap) (locs : List Loc) (ls : Array Slot), (x0 < shM.1 ∧ shM.2.1 x0 = 11) → mW G shM L S A s H locs → lv_has ls 1 [(0, .ref (ad L x0))] → fX11_expression_4 Rc_e  n x0 S = some q → W p l e (rmd (de + 86)) s m av below meth c H locs 0 0 (MQ below (mQ G shM L q none A) av s 0 0 A) (F0 m 4 ls []) := by
  intro n
  induction n with
  | zero =>
    intro x0 S H locs ls hx0 hW hl hf
    rw [fX11_expression_4] at hf
    cases hf
  | succ n ih =>
    intro x0 S H locs ls hx0 hW hl hf
    rw [fX11_expression_4] at hf
    refine lv_aload_n C.1 C.2.1 dX11_expression_4 rfl (lv_at hl 0 rfl) ?_
    refine lv_bipush C.1 C.2.1 dX11_expression_5 bp_14 ?_
    obtain ⟨q1, h2, hf⟩ := bd hf
    refine m_callV (As := [.int (14 : Int32)]) (rest := []) C hW hx0 (cX11_isWord_ok  hx0 h2) mlX11_291 (by decide) rfl hl.1 rfl (Nat.le_of_ble_eq_true rfl) (by omega) (Nat.le_of_ble_eq_true rfl) dX11_expression_7 (fun H locs hW => ?_)
    refine lv_if_eq (tgt := 36) C.1 C.2.1 dX11_expression_10 rfl (fun c3 => ?_) (fun c3 => ?_)
    · have hf := (if_pos c3).symm.trans hf
      cases hf
      exact m_vret C hW dX11_expression_36
    · have hf := (if_neg c3).symm.trans hf
      refine lv_aload_n C.1 C.2.1 dX11_expression_13 rfl (lv_at hl 0 rfl) ?_
      obtain ⟨q4, h5, hf⟩ := bd hf
      refine m_callV (As := []) (rest := []) C hW hx0 (cX11_knot_ok  hx0 h5) mlX11_294 (by decide) rfl hl.1 rfl (Nat.le_of_ble_eq_true rfl) (by omega) (Nat.le_of_ble_eq_true rfl) dX11_expression_14 (fun H locs hW => ?_)
      refine lv_aload_n C.1 C.2.1 dX11_expression_17 rfl (lv_at hl 0 rfl) ?_
      obtain ⟨q6, h7, hf⟩ := bd hf
      refine m_callV (As := []) (rest := []) C hW hx0 (cX11_goOn_ok  hx0 h7) mlX11_297 (by decide) rfl hl.1 rfl (Nat.le_of_ble_eq_true rfl) (by omega) (Nat.le_of_ble_eq_true rfl) dX11_expression_18 (fun H locs hW => ?_)
      refine lv_aload_n C.1 C.2.1 dX11_expression_21 rfl (lv_at hl 0 rfl) ?_
      obtain ⟨q8, h9, hf⟩ := bd hf
      refine m_callV (As := []) (rest := []) C hW hx0 (cX11_conjunction_ok hde hRc_e  hx0 h9) mlX11_288 (by decide) rfl hl.1 rfl (Nat.le_of_ble_eq_true rfl) (by omega) (Nat.le_of_ble_eq_true rfl) dX11_expression_22 (fun H locs hW => ?_)
      refine lv_aload_n C.1 C.2.1 dX11_expression_25 rfl (lv_at hl 0 rfl) ?_
      refine lv_iconst C.1 C.2.1 dX11_expression_26 ic_2 ?_
      refine lv_sipush C.1 C.2.1 dX11_expression_27 sp_262 ?_
      obtain ⟨q10, h11, hf⟩ := bd hf
      refine m_callV (As := [.int (2 : Int32), .int (262 : Int32)]) (rest := []) C hW hx0 (cX11_puts_ok  hx0 h11) mlX11_300 (by decide) rfl hl.1 rfl (Nat.le_of_ble_eq_true rfl) (by omega) (Nat.le_of_ble_eq_true rfl) dX11_expression_30 (fun H locs hW => ?_)
      refine lv_goto (tgt := 4) C.1 C.2.1 dX11_expression_33 rfl ?_
      exact ih x0 _ _ _ _ hx0 hW (lv_sub hl [0] rfl) hf

set_option maxRecDepth 100000 in
theorem cX11_expression_B_ok {l : Launch} {G : Gv} {L : List Nat} {Rc_e : Nat → MS → Option MS} {de : Nat} (hde : 40 ≤ de) (hRc_e : ∀ (a0 : Nat) (S q : MS), (a0 < shM.1 ∧ shM.2.1 a0 = 11) → Rc_e a0 S = some q → Mt l yX11_expression cX11_expression 1 none de G shM L S [.ref (ad L a0)] none q) {S : MS} {a0 : Nat} {q : MS} (ha0 : a0 < shM.1 ∧ shM.2.1 a0 = 11) (hf : fX11_expression_B Rc_e a0 S = some q) : Mt l yX11_expression cX11_expression 1 none (de + 86) G shM L S [.ref (ad L a0)] none q := by
  refine m_enter (lv := [(0, .ref (ad L a0))]) (plainFor_of_name (by decide)) (Nat.le_of_ble_eq_true rfl) rfl ?_
  intro p e s m below meth c A ls C hW hl
  unfold fX11_expression_B at hf
  refine lv_aload_n C.1 C.2.1 dX11_expression_0 rfl (lv_at hl 0 rfl) ?_
  obtain ⟨q12, h13, hf⟩ := bd hf
  refine m_callV (As := []) (rest := []) C hW ha0 (cX11_conjunction_ok hde hRc_e  ha0 h13) mlX11_288 (by decide) rfl hl.1 rfl (Nat.le_of_ble_eq_true rfl) (by omega) (Nat.le_of_ble_eq_true rfl) dX11_expression_1 (fun H locs hW => ?_)
  exact kX11_expression_4 hde hRc_e  C 1000 a0 _ _ _ _ ha0 hW (lv_sub hl [0] rfl) hf

def fX11_exprN : Nat → Nat → MS → Option MS
  | 0, _, _ => none
  | n + 1, a0, S => fX11_expression_B (fX11_exprN n) a0 S
def fX11_expression (a0 : Nat) (S : MS) : Option MS := fX11_exprN 12 a0 S
theorem cX11_exprN_ok {l : Launch} {G : Gv} {L : List Nat} : ∀ (n : Nat) (a0 : Nat) (S q : MS), (a0 < shM.1 ∧ shM.2.1 a0 = 11) → fX11_exprN n a0 S = some q → Mt l yX11_expression cX11_expression 1 none (40 + 86 * n) G shM L S [.ref (ad L a0)] none q := by
  intro n
  induction n with
  | zero => intro a0 S q _ hf; rw [fX11_exprN] at hf; cases hf
  | succ n ih => intro a0 S q h hf; rw [fX11_exprN] at hf; exact cX11_expression_B_ok (de := 40 + 86 * n) (by omega) ih h hf
theorem cX11_expression_ok {l : Launch} {G : Gv} {L : List Nat} {S : MS} {a0 : Nat} {q : MS} (ha0 : a0 < shM.1 ∧ shM.2.1 a0 = 11) (hf : fX11_expression a0 S = some q) : Mt l yX11_expression cX11_expression 1 none 1072 G shM L S [.ref (ad L a0)] none q := cX11_exprN_ok 12 a0 S q ha0 hf

