def fX1_empty (a0 : Nat) (S : MS) : Option MS := some (pI S a0 2 (0 : Int32))
set_option maxRecDepth 100000 in
theorem cX1_empty_ok {l : Launch} {G : Gv} {L : List Nat} {S : MS} {a0 : Nat} {q : MS} (ha0 : a0 < shX.1 ∧ shX.2.1 a0 = 1) (hf : fX1_empty a0 S = some q) : Mt l yX1_empty cX1_empty 1 none (1) G shX L S [.ref (ad L a0)] none q := by
  refine m_enter (lv := [(0, .ref (ad L a0))]) (plainFor_of_name (by decide)) (Nat.le_of_ble_eq_true rfl) rfl ?_
  intro p e s m below meth c A ls C hW hl
  unfold fX1_empty at hf
  refine lv_aload_n C.1 C.2.1 dX1_empty_0 rfl (lv_at hl 0 rfl) ?_
  refine lv_iconst C.1 C.2.1 dX1_empty_1 ic_0 ?_
  refine m_puti C hW ha0 fpX1_19 dX1_empty_2 (fun H locs hW => ?_)
  cases hf
  exact m_vret C hW dX1_empty_5

def fX1_isTold (a0 : Nat) (S : MS) : Option Int32 := (if (gI S a0 2) ≤ (0 : Int32) then some (0 : Int32) else some (1 : Int32))
set_option maxRecDepth 100000 in
theorem cX1_isTold_ok {l : Launch} {G : Gv} {L : List Nat} {S : MS} {a0 : Nat} {q : Int32} (ha0 : a0 < shX.1 ∧ shX.2.1 a0 = 1) (hf : fX1_isTold a0 S = some q) : Mt l yX1_isTold cX1_isTold 1 (some .boolean) (1) G shX L S [.ref (ad L a0)] (some (.int q)) S := by
  refine m_enter (lv := [(0, .ref (ad L a0))]) (plainFor_of_name (by decide)) (Nat.le_of_ble_eq_true rfl) rfl ?_
  intro p e s m below meth c A ls C hW hl
  unfold fX1_isTold at hf
  refine lv_aload_n C.1 C.2.1 dX1_isTold_0 rfl (lv_at hl 0 rfl) ?_
  refine m_geti C hW ha0 flX1_19 dX1_isTold_1 ?_
  refine lv_if_le (tgt := 11) C.1 C.2.1 dX1_isTold_4 rfl (fun c1 => ?_) (fun c1 => ?_)
  · have hf := (if_pos c1).symm.trans hf
    refine lv_iconst C.1 C.2.1 dX1_isTold_11 ic_0 ?_
    cases hf
    exact m_zret C hW rfl dX1_isTold_12
  · have hf := (if_neg c1).symm.trans hf
    refine lv_iconst C.1 C.2.1 dX1_isTold_7 ic_1 ?_
    refine lv_goto (tgt := 12) C.1 C.2.1 dX1_isTold_8 rfl ?_
    cases hf
    exact m_zret C hW rfl dX1_isTold_12

def fX1_add (a0 : Nat) (a1 : Int32) (S : MS) : Option MS := (if (64 : Int32) ≤ (gI S a0 2) then some S else (if bnd (gI S a0 2) (lnX (gR S a0 0)) = true then some (pI (pI S (gR S a0 0) ((gI S a0 2).toNatClampNeg) a1) a0 2 ((gI (pI S (gR S a0 0) ((gI S a0 2).toNatClampNeg) a1) a0 2) + (1 : Int32))) else none))
set_option maxRecDepth 100000 in
theorem cX1_add_ok {l : Launch} {G : Gv} {L : List Nat} {S : MS} {a0 : Nat} {a1 : Int32} {q : MS} (ha0 : a0 < shX.1 ∧ shX.2.1 a0 = 1) (hf : fX1_add a0 a1 S = some q) : Mt l yX1_add cX1_add 2 none (1) G shX L S [.ref (ad L a0), .int a1] none q := by
  refine m_enter (lv := [(0, .ref (ad L a0)), (1, .int a1)]) (plainFor_of_name (by decide)) (Nat.le_of_ble_eq_true rfl) rfl ?_
  intro p e s m below meth c A ls C hW hl
  unfold fX1_add at hf
  refine lv_aload_n C.1 C.2.1 dX1_add_0 rfl (lv_at hl 0 rfl) ?_
  refine m_geti C hW ha0 flX1_19 dX1_add_1 ?_
  refine lv_bipush C.1 C.2.1 dX1_add_4 bp_64 ?_
  refine lv_icmp_ge (tgt := 29) C.1 C.2.1 dX1_add_6 rfl (fun c1 => ?_) (fun c1 => ?_)
  · have hf := (if_pos c1).symm.trans hf
    cases hf
    exact m_vret C hW dX1_add_29
  · have hf := (if_neg c1).symm.trans hf
    refine lv_aload_n C.1 C.2.1 dX1_add_9 rfl (lv_at hl 0 rfl) ?_
    refine m_getr C hW ha0 flX1_11 (by decide) dX1_add_10 (fun hk2 => ?_)
    refine lv_aload_n C.1 C.2.1 dX1_add_13 rfl (lv_at hl 0 rfl) ?_
    refine m_geti C hW ha0 flX1_19 dX1_add_14 ?_
    refine lv_iload_n C.1 C.2.1 dX1_add_17 rfl (lv_at hl 1 rfl) ?_
    obtain ⟨hb3, hf⟩ := gd hf
    refine m_iast C hW hk2 hb3 dX1_add_18 (fun H locs hW => ?_)
    refine lv_aload_n C.1 C.2.1 dX1_add_19 rfl (lv_at hl 0 rfl) ?_
    refine lv_dup C.1 C.2.1 dX1_add_20 rfl ?_
    refine m_geti C hW ha0 flX1_19 dX1_add_21 ?_
    refine lv_iconst C.1 C.2.1 dX1_add_24 ic_1 ?_
    refine lv_iadd C.1 C.2.1 dX1_add_25 ?_
    refine m_puti C hW ha0 fpX1_19 dX1_add_26 (fun H locs hW => ?_)
    cases hf
    exact m_vret C hW dX1_add_29

def fX1_join_173  (x1 : Int64) (x3 : Int64) (y0 : Int64) (y1 : Int64) (y2 : Int64) (S : MS) : Option Int64 := (if y2 = (0 : Int64) then none else (if (lg_cmp y0 (y1 / y2)) ≤ (0 : Int32) then some (x1 * x3) else some (-9223372036854775808 : Int64)))
def fX1_join_158  (x1 : Int64) (x3 : Int64) (y0 : Int64) (S : MS) : Option Int64 := (if (0 : Int32) ≤ (lg_cmp x1 (0 : Int64)) then fX1_join_173  x1 x3 y0 (1000000000000 : Int64) x1 S else fX1_join_173  x1 x3 y0 (1000000000000 : Int64) (-x1) S)
def fX1_join (a0 : Int32) (a1 : Int64) (a3 : Int64) (S : MS) : Option Int64 := (if a0 = (7 : Int32) then some (a1 + a3) else if a0 = (8 : Int32) then some (a1 - a3) else if a0 = (9 : Int32) then (if lg_cmp a1 (0 : Int64) = (0 : Int32) then some (a1 * a3) else (if (0 : Int32) ≤ (lg_cmp a3 (0 : Int64)) then fX1_join_158  a1 a3 a3 S else fX1_join_158  a1 a3 (-a3) S)) else if a0 = (10 : Int32) then (if lg_cmp a3 (0 : Int64) = (0 : Int32) then some (-9223372036854775808 : Int64) else (if a3 = (0 : Int64) then none else some (a1 / a3))) else if a0 = (11 : Int32) then (if (0 : Int32) ≤ (lg_cmp a1 a3) then some (0 : Int64) else some (1 : Int64)) else if a0 = (12 : Int32) then (if (0 : Int32) < (lg_cmp a1 a3) then some (0 : Int64) else some (1 : Int64)) else if a0 = (13 : Int32) then (if lg_cmp a1 a3 = (0 : Int32) then some (1 : Int64) else some (0 : Int64)) else if a0 = (14 : Int32) then (if lg_cmp a1 a3 = (0 : Int32) then some (0 : Int64) else some (1 : Int64)) else if a0 = (15 : Int32) then (if (lg_cmp a1 a3) < (0 : Int32) then some (0 : Int64) else some (1 : Int64)) else if a0 = (16 : Int32) then (if (lg_cmp a1 a3) ≤ (0 : Int32) then some (0 : Int64) else some (1 : Int64)) else if a0 = (34 : Int32) then (if lg_cmp a1 (0 : Int64) = (0 : Int32) then (if lg_cmp a3 (0 : Int64) = (0 : Int32) then some (0 : Int64) else some (1 : Int64)) else some (1 : Int64)) else if a0 = (35 : Int32) then (if lg_cmp a1 (0 : Int64) = (0 : Int32) then some (0 : Int64) else (if lg_cmp a3 (0 : Int64) = (0 : Int32) then some (0 : Int64) else some (1 : Int64))) else some (-9223372036854775808 : Int64))
set_option maxRecDepth 100000 in
theorem kX1_join_173 {p : Program} {l : Launch} {e : Env} {s : State} {m : MethodId} {av : Array Value} {below : List Frame} {meth : Method} {c : Code} {A : Nat → Prop} {G : Gv} {L : List Nat} {S : MS} {q : Int64}  (C : mC p s m av meth c cX1_join RX1 5 (some .long)) : ∀ (x1 : Int64) (x3 : Int64) (y0 : Int64) (y1 : Int64) (y2 : Int64) (H : Heap) (locs : List Loc) (ls : Array Slot), mW G shX L S A s H locs → lv_has ls 5 [(1, .long x1), (3, .long x3)] → fX1_join_173  x1 x3 y0 y1 y2 S = some q → W p l e (rmd (1)) s m av below meth c H locs 0 0 (MQ below (mQ G shX L S (some (.long q)) A) av s 0 0 A) (F0 m 173 ls [.long y2, .long y1, .long y0]) := by
  intro x1 x3 y0 y1 y2 H locs ls  hW hl hf
  unfold fX1_join_173 at hf
  obtain ⟨hz1, hf⟩ := nz hf
  refine lv_ldiv C.1 C.2.1 dX1_join_173 hz1 ?_
  refine W.lcmp C.1 C.2.1 dX1_join_174 ?_
  refine lv_if_le (tgt := 184) C.1 C.2.1 dX1_join_175 rfl (fun c2 => ?_) (fun c2 => ?_)
  · have hf := (if_pos c2).symm.trans hf
    refine lv_lload_n C.1 C.2.1 dX1_join_184 rfl (lv_at hl 0 rfl) ?_
    refine lv_lload_n C.1 C.2.1 dX1_join_185 rfl (lv_at hl 1 rfl) ?_
    refine lv_lmul C.1 C.2.1 dX1_join_186 ?_
    cases hf
    exact m_lret C hW dX1_join_187
  · have hf := (if_neg c2).symm.trans hf
    refine lv_ldc2 C.1 C.2.1 C.2.2.2.1 (C.2.2.2.2.1 _ kw_935) dX1_join_178 ?_
    refine lv_goto (tgt := 187) C.1 C.2.1 dX1_join_181 rfl ?_
    cases hf
    exact m_lret C hW dX1_join_187

set_option maxRecDepth 100000 in
theorem kX1_join_158 {p : Program} {l : Launch} {e : Env} {s : State} {m : MethodId} {av : Array Value} {below : List Frame} {meth : Method} {c : Code} {A : Nat → Prop} {G : Gv} {L : List Nat} {S : MS} {q : Int64}  (C : mC p s m av meth c cX1_join RX1 5 (some .long)) : ∀ (x1 : Int64) (x3 : Int64) (y0 : Int64) (H : Heap) (locs : List Loc) (ls : Array Slot), mW G shX L S A s H locs → lv_has ls 5 [(1, .long x1), (3, .long x3)] → fX1_join_158  x1 x3 y0 S = some q → W p l e (rmd (1)) s m av below meth c H locs 0 0 (MQ below (mQ G shX L S (some (.long q)) A) av s 0 0 A) (F0 m 158 ls [.long y0]) := by
  intro x1 x3 y0 H locs ls  hW hl hf
  unfold fX1_join_158 at hf
  refine lv_ldc2 C.1 C.2.1 C.2.2.2.1 (C.2.2.2.2.1 _ kw_939) dX1_join_158 ?_
  refine lv_lload_n C.1 C.2.1 dX1_join_161 rfl (lv_at hl 0 rfl) ?_
  refine lv_lconst C.1 C.2.1 dX1_join_162 lc_0 ?_
  refine W.lcmp C.1 C.2.1 dX1_join_163 ?_
  refine lv_if_ge (tgt := 172) C.1 C.2.1 dX1_join_164 rfl (fun c3 => ?_) (fun c3 => ?_)
  · have hf := (if_pos c3).symm.trans hf
    refine lv_lload_n C.1 C.2.1 dX1_join_172 rfl (lv_at hl 0 rfl) ?_
    exact kX1_join_173  C x1 x3 y0 (1000000000000 : Int64) x1 _ _ _  hW (lv_sub hl [0, 1] rfl) hf
  · have hf := (if_neg c3).symm.trans hf
    refine lv_lload_n C.1 C.2.1 dX1_join_167 rfl (lv_at hl 0 rfl) ?_
    refine lv_lneg C.1 C.2.1 dX1_join_168 ?_
    refine lv_goto (tgt := 173) C.1 C.2.1 dX1_join_169 rfl ?_
    exact kX1_join_173  C x1 x3 y0 (1000000000000 : Int64) (-x1) _ _ _  hW (lv_sub hl [0, 1] rfl) hf

set_option maxRecDepth 100000 in
theorem cX1_join_ok {l : Launch} {G : Gv} {L : List Nat} {S : MS} {a0 : Int32} {a1 : Int64} {a3 : Int64} {q : Int64}  (hf : fX1_join a0 a1 a3 S = some q) : Mt l yX1_join cX1_join 5 (some .long) (1) G shX L S [.int a0, .long a1, .long a3] (some (.long q)) S := by
  refine m_enter (lv := [(0, .int a0), (1, .long a1), (3, .long a3)]) (plainFor_of_name (by decide)) (Nat.le_of_ble_eq_true rfl) rfl ?_
  intro p e s m below meth c A ls C hW hl
  unfold fX1_join at hf
  refine lv_iload_n C.1 C.2.1 dX1_join_0 rfl (lv_at hl 0 rfl) ?_
  by_cases c4 : a0 = (7 : Int32)
  · have hf := (if_pos c4).symm.trans hf
    refine lv_tableIn (tgt := 132) C.1 C.2.1 dX1_join_1 (by rw [c4]; decide) (by rw [c4]; decide) (by rw [c4]; rfl) rfl ?_
    refine lv_lload_n C.1 C.2.1 dX1_join_132 rfl (lv_at hl 1 rfl) ?_
    refine lv_lload_n C.1 C.2.1 dX1_join_133 rfl (lv_at hl 2 rfl) ?_
    refine lv_ladd C.1 C.2.1 dX1_join_134 ?_
    cases hf
    exact m_lret C hW dX1_join_135
  have hf := (if_neg c4).symm.trans hf
  by_cases c5 : a0 = (8 : Int32)
  · have hf := (if_pos c5).symm.trans hf
    refine lv_tableIn (tgt := 136) C.1 C.2.1 dX1_join_1 (by rw [c5]; decide) (by rw [c5]; decide) (by rw [c5]; rfl) rfl ?_
    refine lv_lload_n C.1 C.2.1 dX1_join_136 rfl (lv_at hl 1 rfl) ?_
    refine lv_lload_n C.1 C.2.1 dX1_join_137 rfl (lv_at hl 2 rfl) ?_
    refine lv_lsub C.1 C.2.1 dX1_join_138 ?_
    cases hf
    exact m_lret C hW dX1_join_139
  have hf := (if_neg c5).symm.trans hf
  by_cases c6 : a0 = (9 : Int32)
  · have hf := (if_pos c6).symm.trans hf
    refine lv_tableIn (tgt := 140) C.1 C.2.1 dX1_join_1 (by rw [c6]; decide) (by rw [c6]; decide) (by rw [c6]; rfl) rfl ?_
    refine lv_lload_n C.1 C.2.1 dX1_join_140 rfl (lv_at hl 1 rfl) ?_
    refine lv_lconst C.1 C.2.1 dX1_join_141 lc_0 ?_
    refine W.lcmp C.1 C.2.1 dX1_join_142 ?_
    refine lv_if_eq (tgt := 184) C.1 C.2.1 dX1_join_143 rfl (fun c7 => ?_) (fun c7 => ?_)
    · have hf := (if_pos c7).symm.trans hf
      refine lv_lload_n C.1 C.2.1 dX1_join_184 rfl (lv_at hl 1 rfl) ?_
      refine lv_lload_n C.1 C.2.1 dX1_join_185 rfl (lv_at hl 2 rfl) ?_
      refine lv_lmul C.1 C.2.1 dX1_join_186 ?_
      cases hf
      exact m_lret C hW dX1_join_187
    · have hf := (if_neg c7).symm.trans hf
      refine lv_lload_n C.1 C.2.1 dX1_join_146 rfl (lv_at hl 2 rfl) ?_
      refine lv_lconst C.1 C.2.1 dX1_join_147 lc_0 ?_
      refine W.lcmp C.1 C.2.1 dX1_join_148 ?_
      refine lv_if_ge (tgt := 157) C.1 C.2.1 dX1_join_149 rfl (fun c8 => ?_) (fun c8 => ?_)
      · have hf := (if_pos c8).symm.trans hf
        refine lv_lload_n C.1 C.2.1 dX1_join_157 rfl (lv_at hl 2 rfl) ?_
        exact kX1_join_158  C a1 a3 a3 _ _ _  hW (lv_sub hl [1, 2] rfl) hf
      · have hf := (if_neg c8).symm.trans hf
        refine lv_lload_n C.1 C.2.1 dX1_join_152 rfl (lv_at hl 2 rfl) ?_
        refine lv_lneg C.1 C.2.1 dX1_join_153 ?_
        refine lv_goto (tgt := 158) C.1 C.2.1 dX1_join_154 rfl ?_
        exact kX1_join_158  C a1 a3 (-a3) _ _ _  hW (lv_sub hl [1, 2] rfl) hf
  have hf := (if_neg c6).symm.trans hf
  by_cases c9 : a0 = (10 : Int32)
  · have hf := (if_pos c9).symm.trans hf
    refine lv_tableIn (tgt := 188) C.1 C.2.1 dX1_join_1 (by rw [c9]; decide) (by rw [c9]; decide) (by rw [c9]; rfl) rfl ?_
    refine lv_lload_n C.1 C.2.1 dX1_join_188 rfl (lv_at hl 2 rfl) ?_
    refine lv_lconst C.1 C.2.1 dX1_join_189 lc_0 ?_
    refine W.lcmp C.1 C.2.1 dX1_join_190 ?_
    refine lv_if_ne (tgt := 200) C.1 C.2.1 dX1_join_191 rfl (fun c10 => ?_) (fun c10 => ?_)
    · have hf := (if_neg c10).symm.trans hf
      refine lv_lload_n C.1 C.2.1 dX1_join_200 rfl (lv_at hl 1 rfl) ?_
      refine lv_lload_n C.1 C.2.1 dX1_join_201 rfl (lv_at hl 2 rfl) ?_
      obtain ⟨hz11, hf⟩ := nz hf
      refine lv_ldiv C.1 C.2.1 dX1_join_202 hz11 ?_
      cases hf
      exact m_lret C hW dX1_join_203
    · have hf := (if_pos c10).symm.trans hf
      refine lv_ldc2 C.1 C.2.1 C.2.2.2.1 (C.2.2.2.2.1 _ kw_935) dX1_join_194 ?_
      refine lv_goto (tgt := 203) C.1 C.2.1 dX1_join_197 rfl ?_
      cases hf
      exact m_lret C hW dX1_join_203
  have hf := (if_neg c9).symm.trans hf
  by_cases c12 : a0 = (11 : Int32)
  · have hf := (if_pos c12).symm.trans hf
    refine lv_tableIn (tgt := 204) C.1 C.2.1 dX1_join_1 (by rw [c12]; decide) (by rw [c12]; decide) (by rw [c12]; rfl) rfl ?_
    refine lv_lload_n C.1 C.2.1 dX1_join_204 rfl (lv_at hl 1 rfl) ?_
    refine lv_lload_n C.1 C.2.1 dX1_join_205 rfl (lv_at hl 2 rfl) ?_
    refine W.lcmp C.1 C.2.1 dX1_join_206 ?_
    refine lv_if_ge (tgt := 214) C.1 C.2.1 dX1_join_207 rfl (fun c13 => ?_) (fun c13 => ?_)
    · have hf := (if_pos c13).symm.trans hf
      refine lv_lconst C.1 C.2.1 dX1_join_214 lc_0 ?_
      cases hf
      exact m_lret C hW dX1_join_215
    · have hf := (if_neg c13).symm.trans hf
      refine lv_lconst C.1 C.2.1 dX1_join_210 lc_1 ?_
      refine lv_goto (tgt := 215) C.1 C.2.1 dX1_join_211 rfl ?_
      cases hf
      exact m_lret C hW dX1_join_215
  have hf := (if_neg c12).symm.trans hf
  by_cases c14 : a0 = (12 : Int32)
  · have hf := (if_pos c14).symm.trans hf
    refine lv_tableIn (tgt := 216) C.1 C.2.1 dX1_join_1 (by rw [c14]; decide) (by rw [c14]; decide) (by rw [c14]; rfl) rfl ?_
    refine lv_lload_n C.1 C.2.1 dX1_join_216 rfl (lv_at hl 1 rfl) ?_
    refine lv_lload_n C.1 C.2.1 dX1_join_217 rfl (lv_at hl 2 rfl) ?_
    refine W.lcmp C.1 C.2.1 dX1_join_218 ?_
    refine lv_if_gt (tgt := 226) C.1 C.2.1 dX1_join_219 rfl (fun c15 => ?_) (fun c15 => ?_)
    · have hf := (if_pos c15).symm.trans hf
      refine lv_lconst C.1 C.2.1 dX1_join_226 lc_0 ?_
      cases hf
      exact m_lret C hW dX1_join_227
    · have hf := (if_neg c15).symm.trans hf
      refine lv_lconst C.1 C.2.1 dX1_join_222 lc_1 ?_
      refine lv_goto (tgt := 227) C.1 C.2.1 dX1_join_223 rfl ?_
      cases hf
      exact m_lret C hW dX1_join_227
  have hf := (if_neg c14).symm.trans hf
  by_cases c16 : a0 = (13 : Int32)
  · have hf := (if_pos c16).symm.trans hf
    refine lv_tableIn (tgt := 228) C.1 C.2.1 dX1_join_1 (by rw [c16]; decide) (by rw [c16]; decide) (by rw [c16]; rfl) rfl ?_
    refine lv_lload_n C.1 C.2.1 dX1_join_228 rfl (lv_at hl 1 rfl) ?_
    refine lv_lload_n C.1 C.2.1 dX1_join_229 rfl (lv_at hl 2 rfl) ?_
    refine W.lcmp C.1 C.2.1 dX1_join_230 ?_
    refine lv_if_ne (tgt := 238) C.1 C.2.1 dX1_join_231 rfl (fun c17 => ?_) (fun c17 => ?_)
    · have hf := (if_neg c17).symm.trans hf
      refine lv_lconst C.1 C.2.1 dX1_join_238 lc_0 ?_
      cases hf
      exact m_lret C hW dX1_join_239
    · have hf := (if_pos c17).symm.trans hf
      refine lv_lconst C.1 C.2.1 dX1_join_234 lc_1 ?_
      refine lv_goto (tgt := 239) C.1 C.2.1 dX1_join_235 rfl ?_
      cases hf
      exact m_lret C hW dX1_join_239
  have hf := (if_neg c16).symm.trans hf
  by_cases c18 : a0 = (14 : Int32)
  · have hf := (if_pos c18).symm.trans hf
    refine lv_tableIn (tgt := 240) C.1 C.2.1 dX1_join_1 (by rw [c18]; decide) (by rw [c18]; decide) (by rw [c18]; rfl) rfl ?_
    refine lv_lload_n C.1 C.2.1 dX1_join_240 rfl (lv_at hl 1 rfl) ?_
    refine lv_lload_n C.1 C.2.1 dX1_join_241 rfl (lv_at hl 2 rfl) ?_
    refine W.lcmp C.1 C.2.1 dX1_join_242 ?_
    refine lv_if_eq (tgt := 250) C.1 C.2.1 dX1_join_243 rfl (fun c19 => ?_) (fun c19 => ?_)
    · have hf := (if_pos c19).symm.trans hf
      refine lv_lconst C.1 C.2.1 dX1_join_250 lc_0 ?_
      cases hf
      exact m_lret C hW dX1_join_251
    · have hf := (if_neg c19).symm.trans hf
      refine lv_lconst C.1 C.2.1 dX1_join_246 lc_1 ?_
      refine lv_goto (tgt := 251) C.1 C.2.1 dX1_join_247 rfl ?_
      cases hf
      exact m_lret C hW dX1_join_251
  have hf := (if_neg c18).symm.trans hf
  by_cases c20 : a0 = (15 : Int32)
  · have hf := (if_pos c20).symm.trans hf
    refine lv_tableIn (tgt := 252) C.1 C.2.1 dX1_join_1 (by rw [c20]; decide) (by rw [c20]; decide) (by rw [c20]; rfl) rfl ?_
    refine lv_lload_n C.1 C.2.1 dX1_join_252 rfl (lv_at hl 1 rfl) ?_
    refine lv_lload_n C.1 C.2.1 dX1_join_253 rfl (lv_at hl 2 rfl) ?_
    refine W.lcmp C.1 C.2.1 dX1_join_254 ?_
    refine lv_if_lt (tgt := 262) C.1 C.2.1 dX1_join_255 rfl (fun c21 => ?_) (fun c21 => ?_)
    · have hf := (if_pos c21).symm.trans hf
      refine lv_lconst C.1 C.2.1 dX1_join_262 lc_0 ?_
      cases hf
      exact m_lret C hW dX1_join_263
    · have hf := (if_neg c21).symm.trans hf
      refine lv_lconst C.1 C.2.1 dX1_join_258 lc_1 ?_
      refine lv_goto (tgt := 263) C.1 C.2.1 dX1_join_259 rfl ?_
      cases hf
      exact m_lret C hW dX1_join_263
  have hf := (if_neg c20).symm.trans hf
  by_cases c22 : a0 = (16 : Int32)
  · have hf := (if_pos c22).symm.trans hf
    refine lv_tableIn (tgt := 264) C.1 C.2.1 dX1_join_1 (by rw [c22]; decide) (by rw [c22]; decide) (by rw [c22]; rfl) rfl ?_
    refine lv_lload_n C.1 C.2.1 dX1_join_264 rfl (lv_at hl 1 rfl) ?_
    refine lv_lload_n C.1 C.2.1 dX1_join_265 rfl (lv_at hl 2 rfl) ?_
    refine W.lcmp C.1 C.2.1 dX1_join_266 ?_
    refine lv_if_le (tgt := 274) C.1 C.2.1 dX1_join_267 rfl (fun c23 => ?_) (fun c23 => ?_)
    · have hf := (if_pos c23).symm.trans hf
      refine lv_lconst C.1 C.2.1 dX1_join_274 lc_0 ?_
      cases hf
      exact m_lret C hW dX1_join_275
    · have hf := (if_neg c23).symm.trans hf
      refine lv_lconst C.1 C.2.1 dX1_join_270 lc_1 ?_
      refine lv_goto (tgt := 275) C.1 C.2.1 dX1_join_271 rfl ?_
      cases hf
      exact m_lret C hW dX1_join_275
  have hf := (if_neg c22).symm.trans hf
  by_cases c24 : a0 = (34 : Int32)
  · have hf := (if_pos c24).symm.trans hf
    refine lv_tableIn (tgt := 294) C.1 C.2.1 dX1_join_1 (by rw [c24]; decide) (by rw [c24]; decide) (by rw [c24]; rfl) rfl ?_
    refine lv_lload_n C.1 C.2.1 dX1_join_294 rfl (lv_at hl 1 rfl) ?_
    refine lv_lconst C.1 C.2.1 dX1_join_295 lc_0 ?_
    refine W.lcmp C.1 C.2.1 dX1_join_296 ?_
    refine lv_if_ne (tgt := 306) C.1 C.2.1 dX1_join_297 rfl (fun c25 => ?_) (fun c25 => ?_)
    · have hf := (if_neg c25).symm.trans hf
      refine lv_lconst C.1 C.2.1 dX1_join_306 lc_1 ?_
      refine lv_goto (tgt := 311) C.1 C.2.1 dX1_join_307 rfl ?_
      cases hf
      exact m_lret C hW dX1_join_311
    · have hf := (if_pos c25).symm.trans hf
      refine lv_lload_n C.1 C.2.1 dX1_join_300 rfl (lv_at hl 2 rfl) ?_
      refine lv_lconst C.1 C.2.1 dX1_join_301 lc_0 ?_
      refine W.lcmp C.1 C.2.1 dX1_join_302 ?_
      refine lv_if_eq (tgt := 310) C.1 C.2.1 dX1_join_303 rfl (fun c26 => ?_) (fun c26 => ?_)
      · have hf := (if_pos c26).symm.trans hf
        refine lv_lconst C.1 C.2.1 dX1_join_310 lc_0 ?_
        cases hf
        exact m_lret C hW dX1_join_311
      · have hf := (if_neg c26).symm.trans hf
        refine lv_lconst C.1 C.2.1 dX1_join_306 lc_1 ?_
        refine lv_goto (tgt := 311) C.1 C.2.1 dX1_join_307 rfl ?_
        cases hf
        exact m_lret C hW dX1_join_311
  have hf := (if_neg c24).symm.trans hf
  by_cases c27 : a0 = (35 : Int32)
  · have hf := (if_pos c27).symm.trans hf
    refine lv_tableIn (tgt := 276) C.1 C.2.1 dX1_join_1 (by rw [c27]; decide) (by rw [c27]; decide) (by rw [c27]; rfl) rfl ?_
    refine lv_lload_n C.1 C.2.1 dX1_join_276 rfl (lv_at hl 1 rfl) ?_
    refine lv_lconst C.1 C.2.1 dX1_join_277 lc_0 ?_
    refine W.lcmp C.1 C.2.1 dX1_join_278 ?_
    refine lv_if_eq (tgt := 292) C.1 C.2.1 dX1_join_279 rfl (fun c28 => ?_) (fun c28 => ?_)
    · have hf := (if_pos c28).symm.trans hf
      refine lv_lconst C.1 C.2.1 dX1_join_292 lc_0 ?_
      cases hf
      exact m_lret C hW dX1_join_293
    · have hf := (if_neg c28).symm.trans hf
      refine lv_lload_n C.1 C.2.1 dX1_join_282 rfl (lv_at hl 2 rfl) ?_
      refine lv_lconst C.1 C.2.1 dX1_join_283 lc_0 ?_
      refine W.lcmp C.1 C.2.1 dX1_join_284 ?_
      refine lv_if_eq (tgt := 292) C.1 C.2.1 dX1_join_285 rfl (fun c29 => ?_) (fun c29 => ?_)
      · have hf := (if_pos c29).symm.trans hf
        refine lv_lconst C.1 C.2.1 dX1_join_292 lc_0 ?_
        cases hf
        exact m_lret C hW dX1_join_293
      · have hf := (if_neg c29).symm.trans hf
        refine lv_lconst C.1 C.2.1 dX1_join_288 lc_1 ?_
        refine lv_goto (tgt := 293) C.1 C.2.1 dX1_join_289 rfl ?_
        cases hf
        exact m_lret C hW dX1_join_293
  have hf := (if_neg c27).symm.trans hf
  by_cases ho30 : a0.toInt < 7 ∨ 35 < a0.toInt
  · refine lv_tableOut (tgt := 312) C.1 C.2.1 dX1_join_1 ho30 rfl ?_
    refine lv_ldc2 C.1 C.2.1 C.2.2.2.1 (C.2.2.2.2.1 _ kw_935) dX1_join_312 ?_
    cases hf
    exact m_lret C hW dX1_join_315
  · by_cases c31 : a0 = (17 : Int32)
    · refine lv_tableIn (tgt := 312) C.1 C.2.1 dX1_join_1 (by rw [c31]; decide) (by rw [c31]; decide) (by rw [c31]; rfl) rfl ?_
      refine lv_ldc2 C.1 C.2.1 C.2.2.2.1 (C.2.2.2.2.1 _ kw_935) dX1_join_312 ?_
      cases hf
      exact m_lret C hW dX1_join_315
    by_cases c32 : a0 = (18 : Int32)
    · refine lv_tableIn (tgt := 312) C.1 C.2.1 dX1_join_1 (by rw [c32]; decide) (by rw [c32]; decide) (by rw [c32]; rfl) rfl ?_
      refine lv_ldc2 C.1 C.2.1 C.2.2.2.1 (C.2.2.2.2.1 _ kw_935) dX1_join_312 ?_
      cases hf
      exact m_lret C hW dX1_join_315
    by_cases c33 : a0 = (19 : Int32)
    · refine lv_tableIn (tgt := 312) C.1 C.2.1 dX1_join_1 (by rw [c33]; decide) (by rw [c33]; decide) (by rw [c33]; rfl) rfl ?_
      refine lv_ldc2 C.1 C.2.1 C.2.2.2.1 (C.2.2.2.2.1 _ kw_935) dX1_join_312 ?_
      cases hf
      exact m_lret C hW dX1_join_315
    by_cases c34 : a0 = (20 : Int32)
    · refine lv_tableIn (tgt := 312) C.1 C.2.1 dX1_join_1 (by rw [c34]; decide) (by rw [c34]; decide) (by rw [c34]; rfl) rfl ?_
      refine lv_ldc2 C.1 C.2.1 C.2.2.2.1 (C.2.2.2.2.1 _ kw_935) dX1_join_312 ?_
      cases hf
      exact m_lret C hW dX1_join_315
    by_cases c35 : a0 = (21 : Int32)
    · refine lv_tableIn (tgt := 312) C.1 C.2.1 dX1_join_1 (by rw [c35]; decide) (by rw [c35]; decide) (by rw [c35]; rfl) rfl ?_
      refine lv_ldc2 C.1 C.2.1 C.2.2.2.1 (C.2.2.2.2.1 _ kw_935) dX1_join_312 ?_
      cases hf
      exact m_lret C hW dX1_join_315
    by_cases c36 : a0 = (22 : Int32)
    · refine lv_tableIn (tgt := 312) C.1 C.2.1 dX1_join_1 (by rw [c36]; decide) (by rw [c36]; decide) (by rw [c36]; rfl) rfl ?_
      refine lv_ldc2 C.1 C.2.1 C.2.2.2.1 (C.2.2.2.2.1 _ kw_935) dX1_join_312 ?_
      cases hf
      exact m_lret C hW dX1_join_315
    by_cases c37 : a0 = (23 : Int32)
    · refine lv_tableIn (tgt := 312) C.1 C.2.1 dX1_join_1 (by rw [c37]; decide) (by rw [c37]; decide) (by rw [c37]; rfl) rfl ?_
      refine lv_ldc2 C.1 C.2.1 C.2.2.2.1 (C.2.2.2.2.1 _ kw_935) dX1_join_312 ?_
      cases hf
      exact m_lret C hW dX1_join_315
    by_cases c38 : a0 = (24 : Int32)
    · refine lv_tableIn (tgt := 312) C.1 C.2.1 dX1_join_1 (by rw [c38]; decide) (by rw [c38]; decide) (by rw [c38]; rfl) rfl ?_
      refine lv_ldc2 C.1 C.2.1 C.2.2.2.1 (C.2.2.2.2.1 _ kw_935) dX1_join_312 ?_
      cases hf
      exact m_lret C hW dX1_join_315
    by_cases c39 : a0 = (25 : Int32)
    · refine lv_tableIn (tgt := 312) C.1 C.2.1 dX1_join_1 (by rw [c39]; decide) (by rw [c39]; decide) (by rw [c39]; rfl) rfl ?_
      refine lv_ldc2 C.1 C.2.1 C.2.2.2.1 (C.2.2.2.2.1 _ kw_935) dX1_join_312 ?_
      cases hf
      exact m_lret C hW dX1_join_315
    by_cases c40 : a0 = (26 : Int32)
    · refine lv_tableIn (tgt := 312) C.1 C.2.1 dX1_join_1 (by rw [c40]; decide) (by rw [c40]; decide) (by rw [c40]; rfl) rfl ?_
      refine lv_ldc2 C.1 C.2.1 C.2.2.2.1 (C.2.2.2.2.1 _ kw_935) dX1_join_312 ?_
      cases hf
      exact m_lret C hW dX1_join_315
    by_cases c41 : a0 = (27 : Int32)
    · refine lv_tableIn (tgt := 312) C.1 C.2.1 dX1_join_1 (by rw [c41]; decide) (by rw [c41]; decide) (by rw [c41]; rfl) rfl ?_
      refine lv_ldc2 C.1 C.2.1 C.2.2.2.1 (C.2.2.2.2.1 _ kw_935) dX1_join_312 ?_
      cases hf
      exact m_lret C hW dX1_join_315
    by_cases c42 : a0 = (28 : Int32)
    · refine lv_tableIn (tgt := 312) C.1 C.2.1 dX1_join_1 (by rw [c42]; decide) (by rw [c42]; decide) (by rw [c42]; rfl) rfl ?_
      refine lv_ldc2 C.1 C.2.1 C.2.2.2.1 (C.2.2.2.2.1 _ kw_935) dX1_join_312 ?_
      cases hf
      exact m_lret C hW dX1_join_315
    by_cases c43 : a0 = (29 : Int32)
    · refine lv_tableIn (tgt := 312) C.1 C.2.1 dX1_join_1 (by rw [c43]; decide) (by rw [c43]; decide) (by rw [c43]; rfl) rfl ?_
      refine lv_ldc2 C.1 C.2.1 C.2.2.2.1 (C.2.2.2.2.1 _ kw_935) dX1_join_312 ?_
      cases hf
      exact m_lret C hW dX1_join_315
    by_cases c44 : a0 = (30 : Int32)
    · refine lv_tableIn (tgt := 312) C.1 C.2.1 dX1_join_1 (by rw [c44]; decide) (by rw [c44]; decide) (by rw [c44]; rfl) rfl ?_
      refine lv_ldc2 C.1 C.2.1 C.2.2.2.1 (C.2.2.2.2.1 _ kw_935) dX1_join_312 ?_
      cases hf
      exact m_lret C hW dX1_join_315
    by_cases c45 : a0 = (31 : Int32)
    · refine lv_tableIn (tgt := 312) C.1 C.2.1 dX1_join_1 (by rw [c45]; decide) (by rw [c45]; decide) (by rw [c45]; rfl) rfl ?_
      refine lv_ldc2 C.1 C.2.1 C.2.2.2.1 (C.2.2.2.2.1 _ kw_935) dX1_join_312 ?_
      cases hf
      exact m_lret C hW dX1_join_315
    by_cases c46 : a0 = (32 : Int32)
    · refine lv_tableIn (tgt := 312) C.1 C.2.1 dX1_join_1 (by rw [c46]; decide) (by rw [c46]; decide) (by rw [c46]; rfl) rfl ?_
      refine lv_ldc2 C.1 C.2.1 C.2.2.2.1 (C.2.2.2.2.1 _ kw_935) dX1_join_312 ?_
      cases hf
      exact m_lret C hW dX1_join_315
    by_cases c47 : a0 = (33 : Int32)
    · refine lv_tableIn (tgt := 312) C.1 C.2.1 dX1_join_1 (by rw [c47]; decide) (by rw [c47]; decide) (by rw [c47]; rfl) rfl ?_
      refine lv_ldc2 C.1 C.2.1 C.2.2.2.1 (C.2.2.2.2.1 _ kw_935) dX1_join_312 ?_
      cases hf
      exact m_lret C hW dX1_join_315
    exfalso
    have := tn_e c4 (7) (by decide)
    have := tn_e c5 (8) (by decide)
    have := tn_e c6 (9) (by decide)
    have := tn_e c9 (10) (by decide)
    have := tn_e c12 (11) (by decide)
    have := tn_e c14 (12) (by decide)
    have := tn_e c16 (13) (by decide)
    have := tn_e c18 (14) (by decide)
    have := tn_e c20 (15) (by decide)
    have := tn_e c22 (16) (by decide)
    have := tn_e c24 (34) (by decide)
    have := tn_e c27 (35) (by decide)
    have := tn_e c31 (17) (by decide)
    have := tn_e c32 (18) (by decide)
    have := tn_e c33 (19) (by decide)
    have := tn_e c34 (20) (by decide)
    have := tn_e c35 (21) (by decide)
    have := tn_e c36 (22) (by decide)
    have := tn_e c37 (23) (by decide)
    have := tn_e c38 (24) (by decide)
    have := tn_e c39 (25) (by decide)
    have := tn_e c40 (26) (by decide)
    have := tn_e c41 (27) (by decide)
    have := tn_e c42 (28) (by decide)
    have := tn_e c43 (29) (by decide)
    have := tn_e c44 (30) (by decide)
    have := tn_e c45 (31) (by decide)
    have := tn_e c46 (32) (by decide)
    have := tn_e c47 (33) (by decide)
    omega

def fX2_forget (a0 : Nat) (S : MS) : Option MS := some (pI S a0 1 (0 : Int32))
set_option maxRecDepth 100000 in
theorem cX2_forget_ok {l : Launch} {G : Gv} {L : List Nat} {S : MS} {a0 : Nat} {q : MS} (ha0 : a0 < shX.1 ∧ shX.2.1 a0 = 2) (hf : fX2_forget a0 S = some q) : Mt l yX2_forget cX2_forget 1 none (1) G shX L S [.ref (ad L a0)] none q := by
  refine m_enter (lv := [(0, .ref (ad L a0))]) (plainFor_of_name (by decide)) (Nat.le_of_ble_eq_true rfl) rfl ?_
  intro p e s m below meth c A ls C hW hl
  unfold fX2_forget at hf
  refine lv_aload_n C.1 C.2.1 dX2_forget_0 rfl (lv_at hl 0 rfl) ?_
  refine lv_iconst C.1 C.2.1 dX2_forget_1 ic_0 ?_
  refine m_puti C hW ha0 fpX2_15 dX2_forget_2 (fun H locs hW => ?_)
  cases hf
  exact m_vret C hW dX2_forget_5

def fX2_dropOldest_2  : Nat → Nat → Int32 → MS → Option MS
  | 0, _, _, _ => none
  | n + 1, x0, x1, S => (if (100 : Int32) ≤ x1 then some (pI S x0 1 (19 : Int32)) else (if bnd x1 (lnX (gR S x0 0)) = true then (if bnd (x1 - (5 : Int32)) (lnX (gR S x0 0)) = true then (fX2_dropOldest_2  n) x0 (x1 + (1 : Int32)) (pI S (gR S x0 0) ((x1 - (5 : Int32)).toNatClampNeg) (gI S (gR S x0 0) x1.toNatClampNeg)) else none) else none))
def fX2_dropOldest (a0 : Nat) (S : MS) : Option MS := fX2_dropOldest_2  1000 a0 (5 : Int32) S
set_option maxRecDepth 100000 in
theorem kX2_dropOldest_2 {p : Program} {l : Launch} {e : Env} {s : State} {m : MethodId} {av : Array Value} {below : List Frame} {meth : Method} {c : Code} {A : Nat → Prop} {G : Gv} {L : List Nat} {q : MS}  (C : mC p s m av meth c cX2_dropOldest RX2 2 none) : ∀ (n : Nat) (x0 : Nat) (x1 : Int32) (S : MS) (H : Heap) (locs : List Loc) (ls : Array Slot), (x0 < shX.1 ∧ shX.2.1 x0 = 2) → mW G shX L S A s H locs → lv_has ls 2 [(0, .ref (ad L x0)), (1, .int x1)] → fX2_dropOldest_2  n x0 x1 S = some q → W p l e (rmd (1)) s m av below meth c H locs 0 0 (MQ below (mQ G shX L q none A) av s 0 0 A) (F0 m 2 ls []) := by
  intro n
  induction n with
  | zero =>
    intro x0 x1 S H locs ls hx0 hW hl hf
    rw [fX2_dropOldest_2] at hf
    cases hf
  | succ n ih =>
    intro x0 x1 S H locs ls hx0 hW hl hf
    rw [fX2_dropOldest_2] at hf
    refine lv_iload_n C.1 C.2.1 dX2_dropOldest_2 rfl (lv_at hl 1 rfl) ?_
    refine lv_bipush C.1 C.2.1 dX2_dropOldest_3 bp_100 ?_
    refine lv_icmp_ge (tgt := 28) C.1 C.2.1 dX2_dropOldest_5 rfl (fun c1 => ?_) (fun c1 => ?_)
    · have hf := (if_pos c1).symm.trans hf
      refine lv_aload_n C.1 C.2.1 dX2_dropOldest_28 rfl (lv_at hl 0 rfl) ?_
      refine lv_bipush C.1 C.2.1 dX2_dropOldest_29 bp_19 ?_
      refine m_puti C hW hx0 fpX2_15 dX2_dropOldest_31 (fun H locs hW => ?_)
      cases hf
      exact m_vret C hW dX2_dropOldest_34
    · have hf := (if_neg c1).symm.trans hf
      refine lv_aload_n C.1 C.2.1 dX2_dropOldest_8 rfl (lv_at hl 0 rfl) ?_
      refine m_getr C hW hx0 flX2_11 (by decide) dX2_dropOldest_9 (fun hk2 => ?_)
      refine lv_iload_n C.1 C.2.1 dX2_dropOldest_12 rfl (lv_at hl 1 rfl) ?_
      refine lv_iconst C.1 C.2.1 dX2_dropOldest_13 ic_5 ?_
      refine lv_isub C.1 C.2.1 dX2_dropOldest_14 ?_
      refine lv_aload_n C.1 C.2.1 dX2_dropOldest_15 rfl (lv_at hl 0 rfl) ?_
      refine m_getr C hW hx0 flX2_11 (by decide) dX2_dropOldest_16 (fun hk3 => ?_)
      refine lv_iload_n C.1 C.2.1 dX2_dropOldest_19 rfl (lv_at hl 1 rfl) ?_
      obtain ⟨hb4, hf⟩ := gd hf
      refine m_iald C hW hk3 hb4 dX2_dropOldest_20 ?_
      obtain ⟨hb5, hf⟩ := gd hf
      refine m_iast C hW hk2 hb5 dX2_dropOldest_21 (fun H locs hW => ?_)
      refine lv_iinc (v := x1 + (1 : Int32)) (lv' := [(1, .int (x1 + (1 : Int32))), (0, .ref (ad L x0))]) C.1 C.2.1 dX2_dropOldest_22 hl (k := 1) rfl (congrArg (fun z => x1 + z) ic_1) (by decide) rfl (fun ls hl => ?_)
      refine lv_goto (tgt := 2) C.1 C.2.1 dX2_dropOldest_25 rfl ?_
      exact ih x0 (x1 + (1 : Int32)) _ _ _ _ hx0 hW (lv_sub hl [1, 0] rfl) hf

set_option maxRecDepth 100000 in
theorem cX2_dropOldest_ok {l : Launch} {G : Gv} {L : List Nat} {S : MS} {a0 : Nat} {q : MS} (ha0 : a0 < shX.1 ∧ shX.2.1 a0 = 2) (hf : fX2_dropOldest a0 S = some q) : Mt l yX2_dropOldest cX2_dropOldest 2 none (1) G shX L S [.ref (ad L a0)] none q := by
  refine m_enter (lv := [(0, .ref (ad L a0))]) (plainFor_of_name (by decide)) (Nat.le_of_ble_eq_true rfl) rfl ?_
  intro p e s m below meth c A ls C hW hl
  unfold fX2_dropOldest at hf
  refine lv_iconst C.1 C.2.1 dX2_dropOldest_0 ic_5 ?_
  refine lv_istore_n (lv' := [(1, .int (5 : Int32)), (0, .ref (ad L a0))]) C.1 C.2.1 dX2_dropOldest_1 rfl hl (by decide) rfl (fun ls hl => ?_)
  exact kX2_dropOldest_2  C 1000 a0 (5 : Int32) _ _ _ _ ha0 hW (lv_sub hl [1, 0] rfl) hf

def fX2_takeBack_84  (x0 : Nat) (S : MS) : Option (Int32 × MS) := some (gI S x0 1, S)
def fX2_takeBack_60  (x0 : Nat) (x1 : Nat) (x2 : Int32) (S : MS) : Option (Int32 × MS) := (if bnd (x2 + (3 : Int32)) (lnX (gR S x0 0)) = true then (if bnd (x2 + (4 : Int32)) (lnX (gR (pI S x1 7 (gI S (gR S x0 0) (x2 + (3 : Int32)).toNatClampNeg)) x0 0)) = true then fX2_takeBack_84  x0 (pI (pI S x1 7 (gI S (gR S x0 0) (x2 + (3 : Int32)).toNatClampNeg)) x1 8 (gI (pI S x1 7 (gI S (gR S x0 0) (x2 + (3 : Int32)).toNatClampNeg)) (gR (pI S x1 7 (gI S (gR S x0 0) (x2 + (3 : Int32)).toNatClampNeg)) x0 0) (x2 + (4 : Int32)).toNatClampNeg)) else none) else none)
def fX2_takeBack_36  (x0 : Nat) (x1 : Nat) (x2 : Int32) (S : MS) : Option (Int32 × MS) := (if bnd (x2 + (1 : Int32)) (lnX (gR S x0 0)) = true then (if bnd (x2 + (2 : Int32)) (lnX (gR (pI S x1 5 (gI S (gR S x0 0) (x2 + (1 : Int32)).toNatClampNeg)) x0 0)) = true then fX2_takeBack_60  x0 x1 x2 (pI (pI S x1 5 (gI S (gR S x0 0) (x2 + (1 : Int32)).toNatClampNeg)) x1 6 (gI (pI S x1 5 (gI S (gR S x0 0) (x2 + (1 : Int32)).toNatClampNeg)) (gR (pI S x1 5 (gI S (gR S x0 0) (x2 + (1 : Int32)).toNatClampNeg)) x0 0) (x2 + (2 : Int32)).toNatClampNeg)) else none) else none)
def fX2_takeBack (a0 : Nat) (a1 : Nat) (S : MS) : Option (Int32 × MS) := (if (0 : Int32) < (gI S a0 1) then (if bnd ((gI (pI S a0 1 ((gI S a0 1) - (1 : Int32))) a0 1) * (5 : Int32)) (lnX (gR (pI S a0 1 ((gI S a0 1) - (1 : Int32))) a0 0)) = true then fX2_takeBack_36  a0 a1 ((gI (pI S a0 1 ((gI S a0 1) - (1 : Int32))) a0 1) * (5 : Int32)) (pI (pI S a0 1 ((gI S a0 1) - (1 : Int32))) a1 4 (gI (pI S a0 1 ((gI S a0 1) - (1 : Int32))) (gR (pI S a0 1 ((gI S a0 1) - (1 : Int32))) a0 0) ((gI (pI S a0 1 ((gI S a0 1) - (1 : Int32))) a0 1) * (5 : Int32)).toNatClampNeg)) else none) else some ((-1 : Int32), S))
set_option maxRecDepth 100000 in
theorem kX2_takeBack_84 {p : Program} {l : Launch} {e : Env} {s : State} {m : MethodId} {av : Array Value} {below : List Frame} {meth : Method} {c : Code} {A : Nat → Prop} {G : Gv} {L : List Nat} {q : (Int32 × MS)}  (C : mC p s m av meth c cX2_takeBack RX2 3 (some .int)) : ∀ (x0 : Nat) (S : MS) (H : Heap) (locs : List Loc) (ls : Array Slot), (x0 < shX.1 ∧ shX.2.1 x0 = 2) → mW G shX L S A s H locs → lv_has ls 3 [(0, .ref (ad L x0))] → fX2_takeBack_84  x0 S = some q → W p l e (rmd (1)) s m av below meth c H locs 0 0 (MQ below (mQ G shX L q.2 (some (.int q.1)) A) av s 0 0 A) (F0 m 84 ls []) := by
  intro x0 S H locs ls hx0 hW hl hf
  unfold fX2_takeBack_84 at hf
  refine lv_aload_n C.1 C.2.1 dX2_takeBack_84 rfl (lv_at hl 0 rfl) ?_
  refine m_geti C hW hx0 flX2_15 dX2_takeBack_85 ?_
  cases hf
  exact m_iret C hW dX2_takeBack_88

set_option maxRecDepth 100000 in
theorem kX2_takeBack_60 {p : Program} {l : Launch} {e : Env} {s : State} {m : MethodId} {av : Array Value} {below : List Frame} {meth : Method} {c : Code} {A : Nat → Prop} {G : Gv} {L : List Nat} {q : (Int32 × MS)}  (C : mC p s m av meth c cX2_takeBack RX2 3 (some .int)) : ∀ (x0 : Nat) (x1 : Nat) (x2 : Int32) (S : MS) (H : Heap) (locs : List Loc) (ls : Array Slot), (x0 < shX.1 ∧ shX.2.1 x0 = 2) → (x1 < shX.1 ∧ shX.2.1 x1 = 9) → mW G shX L S A s H locs → lv_has ls 3 [(0, .ref (ad L x0)), (1, .ref (ad L x1)), (2, .int x2)] → fX2_takeBack_60  x0 x1 x2 S = some q → W p l e (rmd (1)) s m av below meth c H locs 0 0 (MQ below (mQ G shX L q.2 (some (.int q.1)) A) av s 0 0 A) (F0 m 60 ls []) := by
  intro x0 x1 x2 S H locs ls hx0 hx1 hW hl hf
  unfold fX2_takeBack_60 at hf
  refine lv_aload_n C.1 C.2.1 dX2_takeBack_60 rfl (lv_at hl 1 rfl) ?_
  refine lv_aload_n C.1 C.2.1 dX2_takeBack_61 rfl (lv_at hl 0 rfl) ?_
  refine m_getr C hW hx0 flX2_11 (by decide) dX2_takeBack_62 (fun hk1 => ?_)
  refine lv_iload_n C.1 C.2.1 dX2_takeBack_65 rfl (lv_at hl 2 rfl) ?_
  refine lv_iconst C.1 C.2.1 dX2_takeBack_66 ic_3 ?_
  refine lv_iadd C.1 C.2.1 dX2_takeBack_67 ?_
  obtain ⟨hb2, hf⟩ := gd hf
  refine m_iald C hW hk1 hb2 dX2_takeBack_68 ?_
  refine m_puti C hW hx1 fpX2_33 dX2_takeBack_69 (fun H locs hW => ?_)
  refine lv_aload_n C.1 C.2.1 dX2_takeBack_72 rfl (lv_at hl 1 rfl) ?_
  refine lv_aload_n C.1 C.2.1 dX2_takeBack_73 rfl (lv_at hl 0 rfl) ?_
  refine m_getr C hW hx0 flX2_11 (by decide) dX2_takeBack_74 (fun hk3 => ?_)
  refine lv_iload_n C.1 C.2.1 dX2_takeBack_77 rfl (lv_at hl 2 rfl) ?_
  refine lv_iconst C.1 C.2.1 dX2_takeBack_78 ic_4 ?_
  refine lv_iadd C.1 C.2.1 dX2_takeBack_79 ?_
  obtain ⟨hb4, hf⟩ := gd hf
  refine m_iald C hW hk3 hb4 dX2_takeBack_80 ?_
  refine m_puti C hW hx1 fpX2_36 dX2_takeBack_81 (fun H locs hW => ?_)
  exact kX2_takeBack_84  C x0 _ _ _ _ hx0 hW (lv_sub hl [0] rfl) hf

set_option maxRecDepth 100000 in
theorem kX2_takeBack_36 {p : Program} {l : Launch} {e : Env} {s : State} {m : MethodId} {av : Array Value} {below : List Frame} {meth : Method} {c : Code} {A : Nat → Prop} {G : Gv} {L : List Nat} {q : (Int32 × MS)}  (C : mC p s m av meth c cX2_takeBack RX2 3 (some .int)) : ∀ (x0 : Nat) (x1 : Nat) (x2 : Int32) (S : MS) (H : Heap) (locs : List Loc) (ls : Array Slot), (x0 < shX.1 ∧ shX.2.1 x0 = 2) → (x1 < shX.1 ∧ shX.2.1 x1 = 9) → mW G shX L S A s H locs → lv_has ls 3 [(0, .ref (ad L x0)), (1, .ref (ad L x1)), (2, .int x2)] → fX2_takeBack_36  x0 x1 x2 S = some q → W p l e (rmd (1)) s m av below meth c H locs 0 0 (MQ below (mQ G shX L q.2 (some (.int q.1)) A) av s 0 0 A) (F0 m 36 ls []) := by
  intro x0 x1 x2 S H locs ls hx0 hx1 hW hl hf
  unfold fX2_takeBack_36 at hf
  refine lv_aload_n C.1 C.2.1 dX2_takeBack_36 rfl (lv_at hl 1 rfl) ?_
  refine lv_aload_n C.1 C.2.1 dX2_takeBack_37 rfl (lv_at hl 0 rfl) ?_
  refine m_getr C hW hx0 flX2_11 (by decide) dX2_takeBack_38 (fun hk5 => ?_)
  refine lv_iload_n C.1 C.2.1 dX2_takeBack_41 rfl (lv_at hl 2 rfl) ?_
  refine lv_iconst C.1 C.2.1 dX2_takeBack_42 ic_1 ?_
  refine lv_iadd C.1 C.2.1 dX2_takeBack_43 ?_
  obtain ⟨hb6, hf⟩ := gd hf
  refine m_iald C hW hk5 hb6 dX2_takeBack_44 ?_
  refine m_puti C hW hx1 fpX2_27 dX2_takeBack_45 (fun H locs hW => ?_)
  refine lv_aload_n C.1 C.2.1 dX2_takeBack_48 rfl (lv_at hl 1 rfl) ?_
  refine lv_aload_n C.1 C.2.1 dX2_takeBack_49 rfl (lv_at hl 0 rfl) ?_
  refine m_getr C hW hx0 flX2_11 (by decide) dX2_takeBack_50 (fun hk7 => ?_)
  refine lv_iload_n C.1 C.2.1 dX2_takeBack_53 rfl (lv_at hl 2 rfl) ?_
  refine lv_iconst C.1 C.2.1 dX2_takeBack_54 ic_2 ?_
  refine lv_iadd C.1 C.2.1 dX2_takeBack_55 ?_
  obtain ⟨hb8, hf⟩ := gd hf
  refine m_iald C hW hk7 hb8 dX2_takeBack_56 ?_
  refine m_puti C hW hx1 fpX2_30 dX2_takeBack_57 (fun H locs hW => ?_)
  exact kX2_takeBack_60  C x0 x1 x2 _ _ _ _ hx0 hx1 hW (lv_sub hl [0, 1, 2] rfl) hf

set_option maxRecDepth 100000 in
theorem cX2_takeBack_ok {l : Launch} {G : Gv} {L : List Nat} {S : MS} {a0 : Nat} {a1 : Nat} {q : (Int32 × MS)} (ha0 : a0 < shX.1 ∧ shX.2.1 a0 = 2) (ha1 : a1 < shX.1 ∧ shX.2.1 a1 = 9) (hf : fX2_takeBack a0 a1 S = some q) : Mt l yX2_takeBack cX2_takeBack 3 (some .int) (1) G shX L S [.ref (ad L a0), .ref (ad L a1)] (some (.int q.1)) q.2 := by
  refine m_enter (lv := [(0, .ref (ad L a0)), (1, .ref (ad L a1))]) (plainFor_of_name (by decide)) (Nat.le_of_ble_eq_true rfl) rfl ?_
  intro p e s m below meth c A ls C hW hl
  unfold fX2_takeBack at hf
  refine lv_aload_n C.1 C.2.1 dX2_takeBack_0 rfl (lv_at hl 0 rfl) ?_
  refine m_geti C hW ha0 flX2_15 dX2_takeBack_1 ?_
  refine lv_if_gt (tgt := 9) C.1 C.2.1 dX2_takeBack_4 rfl (fun c9 => ?_) (fun c9 => ?_)
  · have hf := (if_pos c9).symm.trans hf
    refine lv_aload_n C.1 C.2.1 dX2_takeBack_9 rfl (lv_at hl 0 rfl) ?_
    refine lv_dup C.1 C.2.1 dX2_takeBack_10 rfl ?_
    refine m_geti C hW ha0 flX2_15 dX2_takeBack_11 ?_
    refine lv_iconst C.1 C.2.1 dX2_takeBack_14 ic_1 ?_
    refine lv_isub C.1 C.2.1 dX2_takeBack_15 ?_
    refine m_puti C hW ha0 fpX2_15 dX2_takeBack_16 (fun H locs hW => ?_)
    refine lv_aload_n C.1 C.2.1 dX2_takeBack_19 rfl (lv_at hl 0 rfl) ?_
    refine m_geti C hW ha0 flX2_15 dX2_takeBack_20 ?_
    refine lv_iconst C.1 C.2.1 dX2_takeBack_23 ic_5 ?_
    refine lv_imul C.1 C.2.1 dX2_takeBack_24 ?_
    refine lv_istore_n (lv' := [(2, .int ((gI (pI S a0 1 ((gI S a0 1) - (1 : Int32))) a0 1) * (5 : Int32))), (0, .ref (ad L a0)), (1, .ref (ad L a1))]) C.1 C.2.1 dX2_takeBack_25 rfl hl (by decide) rfl (fun ls hl => ?_)
    refine lv_aload_n C.1 C.2.1 dX2_takeBack_26 rfl (lv_at hl 2 rfl) ?_
    refine lv_aload_n C.1 C.2.1 dX2_takeBack_27 rfl (lv_at hl 1 rfl) ?_
    refine m_getr C hW ha0 flX2_11 (by decide) dX2_takeBack_28 (fun hk10 => ?_)
    refine lv_iload_n C.1 C.2.1 dX2_takeBack_31 rfl (lv_at hl 0 rfl) ?_
    obtain ⟨hb11, hf⟩ := gd hf
    refine m_iald C hW hk10 hb11 dX2_takeBack_32 ?_
    refine m_puti C hW ha1 fpX2_22 dX2_takeBack_33 (fun H locs hW => ?_)
    exact kX2_takeBack_36  C a0 a1 ((gI (pI S a0 1 ((gI S a0 1) - (1 : Int32))) a0 1) * (5 : Int32)) _ _ _ _ ha0 ha1 hW (lv_sub hl [1, 2, 0] rfl) hf
  · have hf := (if_neg c9).symm.trans hf
    refine lv_iconst C.1 C.2.1 dX2_takeBack_7 ic_m1 ?_
    cases hf
    exact m_iret C hW dX2_takeBack_8

def fX3_reach_46  (x0 : Nat) (S : MS) : Option MS := some (pI S x0 2 ((gI S x0 2) + (1 : Int32)))
def fX3_reach (a0 : Nat) (a1 : Int32) (a2 : Int32) (S : MS) : Option MS := (if a1 < (0 : Int32) then some S else (if (64 : Int32) ≤ a1 then some S else (if bnd a1 (lnX (gR S a0 0)) = true then (if gI S (gR S a0 0) a1.toNatClampNeg = (-1 : Int32) then (if (64 : Int32) ≤ (gI S a0 2) then some S else (if bnd a1 (lnX (gR S a0 0)) = true then (if bnd (gI (pI S (gR S a0 0) a1.toNatClampNeg a2) a0 2) (lnX (gR (pI S (gR S a0 0) a1.toNatClampNeg a2) a0 1)) = true then fX3_reach_46  a0 (pI (pI S (gR S a0 0) a1.toNatClampNeg a2) (gR (pI S (gR S a0 0) a1.toNatClampNeg a2) a0 1) ((gI (pI S (gR S a0 0) a1.toNatClampNeg a2) a0 2).toNatClampNeg) a1) else none) else none)) else some S) else none)))
set_option maxRecDepth 100000 in
theorem kX3_reach_46 {p : Program} {l : Launch} {e : Env} {s : State} {m : MethodId} {av : Array Value} {below : List Frame} {meth : Method} {c : Code} {A : Nat → Prop} {G : Gv} {L : List Nat} {q : MS}  (C : mC p s m av meth c cX3_reach RX3 3 none) : ∀ (x0 : Nat) (S : MS) (H : Heap) (locs : List Loc) (ls : Array Slot), (x0 < shX.1 ∧ shX.2.1 x0 = 3) → mW G shX L S A s H locs → lv_has ls 3 [(0, .ref (ad L x0))] → fX3_reach_46  x0 S = some q → W p l e (rmd (1)) s m av below meth c H locs 0 0 (MQ below (mQ G shX L q none A) av s 0 0 A) (F0 m 46 ls []) := by
  intro x0 S H locs ls hx0 hW hl hf
  unfold fX3_reach_46 at hf
  refine lv_aload_n C.1 C.2.1 dX3_reach_46 rfl (lv_at hl 0 rfl) ?_
  refine lv_dup C.1 C.2.1 dX3_reach_47 rfl ?_
  refine m_geti C hW hx0 flX3_18 dX3_reach_48 ?_
  refine lv_iconst C.1 C.2.1 dX3_reach_51 ic_1 ?_
  refine lv_iadd C.1 C.2.1 dX3_reach_52 ?_
  refine m_puti C hW hx0 fpX3_18 dX3_reach_53 (fun H locs hW => ?_)
  cases hf
  exact m_vret C hW dX3_reach_56

set_option maxRecDepth 100000 in
theorem cX3_reach_ok {l : Launch} {G : Gv} {L : List Nat} {S : MS} {a0 : Nat} {a1 : Int32} {a2 : Int32} {q : MS} (ha0 : a0 < shX.1 ∧ shX.2.1 a0 = 3) (hf : fX3_reach a0 a1 a2 S = some q) : Mt l yX3_reach cX3_reach 3 none (1) G shX L S [.ref (ad L a0), .int a1, .int a2] none q := by
  refine m_enter (lv := [(0, .ref (ad L a0)), (1, .int a1), (2, .int a2)]) (plainFor_of_name (by decide)) (Nat.le_of_ble_eq_true rfl) rfl ?_
  intro p e s m below meth c A ls C hW hl
  unfold fX3_reach at hf
  refine lv_iload_n C.1 C.2.1 dX3_reach_0 rfl (lv_at hl 1 rfl) ?_
  refine lv_if_lt (tgt := 56) C.1 C.2.1 dX3_reach_1 rfl (fun c1 => ?_) (fun c1 => ?_)
  · have hf := (if_pos c1).symm.trans hf
    cases hf
    exact m_vret C hW dX3_reach_56
  · have hf := (if_neg c1).symm.trans hf
    refine lv_iload_n C.1 C.2.1 dX3_reach_4 rfl (lv_at hl 1 rfl) ?_
    refine lv_bipush C.1 C.2.1 dX3_reach_5 bp_64 ?_
    refine lv_icmp_ge (tgt := 56) C.1 C.2.1 dX3_reach_7 rfl (fun c2 => ?_) (fun c2 => ?_)
    · have hf := (if_pos c2).symm.trans hf
      cases hf
      exact m_vret C hW dX3_reach_56
    · have hf := (if_neg c2).symm.trans hf
      refine lv_aload_n C.1 C.2.1 dX3_reach_10 rfl (lv_at hl 0 rfl) ?_
      refine m_getr C hW ha0 flX3_9 (by decide) dX3_reach_11 (fun hk3 => ?_)
      refine lv_iload_n C.1 C.2.1 dX3_reach_14 rfl (lv_at hl 1 rfl) ?_
      obtain ⟨hb4, hf⟩ := gd hf
      refine m_iald C hW hk3 hb4 dX3_reach_15 ?_
      refine lv_iconst C.1 C.2.1 dX3_reach_16 ic_m1 ?_
      refine lv_icmp_ne (tgt := 56) C.1 C.2.1 dX3_reach_17 rfl (fun c5 => ?_) (fun c5 => ?_)
      · have hf := (if_neg c5).symm.trans hf
        cases hf
        exact m_vret C hW dX3_reach_56
      · have hf := (if_pos c5).symm.trans hf
        refine lv_aload_n C.1 C.2.1 dX3_reach_20 rfl (lv_at hl 0 rfl) ?_
        refine m_geti C hW ha0 flX3_18 dX3_reach_21 ?_
        refine lv_bipush C.1 C.2.1 dX3_reach_24 bp_64 ?_
        refine lv_icmp_ge (tgt := 56) C.1 C.2.1 dX3_reach_26 rfl (fun c6 => ?_) (fun c6 => ?_)
        · have hf := (if_pos c6).symm.trans hf
          cases hf
          exact m_vret C hW dX3_reach_56
        · have hf := (if_neg c6).symm.trans hf
          refine lv_aload_n C.1 C.2.1 dX3_reach_29 rfl (lv_at hl 0 rfl) ?_
          refine m_getr C hW ha0 flX3_9 (by decide) dX3_reach_30 (fun hk7 => ?_)
          refine lv_iload_n C.1 C.2.1 dX3_reach_33 rfl (lv_at hl 1 rfl) ?_
          refine lv_iload_n C.1 C.2.1 dX3_reach_34 rfl (lv_at hl 2 rfl) ?_
          obtain ⟨hb8, hf⟩ := gd hf
          refine m_iast C hW hk7 hb8 dX3_reach_35 (fun H locs hW => ?_)
          refine lv_aload_n C.1 C.2.1 dX3_reach_36 rfl (lv_at hl 0 rfl) ?_
          refine m_getr C hW ha0 flX3_15 (by decide) dX3_reach_37 (fun hk9 => ?_)
          refine lv_aload_n C.1 C.2.1 dX3_reach_40 rfl (lv_at hl 0 rfl) ?_
          refine m_geti C hW ha0 flX3_18 dX3_reach_41 ?_
          refine lv_iload_n C.1 C.2.1 dX3_reach_44 rfl (lv_at hl 1 rfl) ?_
          obtain ⟨hb10, hf⟩ := gd hf
          refine m_iast C hW hk9 hb10 dX3_reach_45 (fun H locs hW => ?_)
          exact kX3_reach_46  C a0 _ _ _ _ ha0 hW (lv_sub hl [0] rfl) hf

def fX5_isName (a0 : Int32) (S : MS) : Option Int32 := (if a0 < (37 : Int32) then some (0 : Int32) else (if (43 : Int32) < a0 then some (0 : Int32) else some (1 : Int32)))
set_option maxRecDepth 100000 in
theorem cX5_isName_ok {l : Launch} {G : Gv} {L : List Nat} {S : MS} {a0 : Int32} {q : Int32}  (hf : fX5_isName a0 S = some q) : Mt l yX5_isName cX5_isName 1 (some .boolean) (1) G shX L S [.int a0] (some (.int q)) S := by
  refine m_enter (lv := [(0, .int a0)]) (plainFor_of_name (by decide)) (Nat.le_of_ble_eq_true rfl) rfl ?_
  intro p e s m below meth c A ls C hW hl
  unfold fX5_isName at hf
  refine lv_iload_n C.1 C.2.1 dX5_isName_0 rfl (lv_at hl 0 rfl) ?_
  refine lv_bipush C.1 C.2.1 dX5_isName_1 bp_37 ?_
  refine lv_icmp_lt (tgt := 16) C.1 C.2.1 dX5_isName_3 rfl (fun c1 => ?_) (fun c1 => ?_)
  · have hf := (if_pos c1).symm.trans hf
    refine lv_iconst C.1 C.2.1 dX5_isName_16 ic_0 ?_
    cases hf
    exact m_zret C hW rfl dX5_isName_17
  · have hf := (if_neg c1).symm.trans hf
    refine lv_iload_n C.1 C.2.1 dX5_isName_6 rfl (lv_at hl 0 rfl) ?_
    refine lv_bipush C.1 C.2.1 dX5_isName_7 bp_43 ?_
    refine lv_icmp_gt (tgt := 16) C.1 C.2.1 dX5_isName_9 rfl (fun c2 => ?_) (fun c2 => ?_)
    · have hf := (if_pos c2).symm.trans hf
      refine lv_iconst C.1 C.2.1 dX5_isName_16 ic_0 ?_
      cases hf
      exact m_zret C hW rfl dX5_isName_17
    · have hf := (if_neg c2).symm.trans hf
      refine lv_iconst C.1 C.2.1 dX5_isName_12 ic_1 ?_
      refine lv_goto (tgt := 17) C.1 C.2.1 dX5_isName_13 rfl ?_
      cases hf
      exact m_zret C hW rfl dX5_isName_17

def fX5_hasMore (a0 : Nat) (S : MS) : Option Int32 := (if gI S a0 5 = (0 : Int32) then some (0 : Int32) else some (1 : Int32))
set_option maxRecDepth 100000 in
theorem cX5_hasMore_ok {l : Launch} {G : Gv} {L : List Nat} {S : MS} {a0 : Nat} {q : Int32} (ha0 : a0 < shX.1 ∧ shX.2.1 a0 = 5) (hf : fX5_hasMore a0 S = some q) : Mt l yX5_hasMore cX5_hasMore 1 (some .boolean) (1) G shX L S [.ref (ad L a0)] (some (.int q)) S := by
  refine m_enter (lv := [(0, .ref (ad L a0))]) (plainFor_of_name (by decide)) (Nat.le_of_ble_eq_true rfl) rfl ?_
  intro p e s m below meth c A ls C hW hl
  unfold fX5_hasMore at hf
  refine lv_aload_n C.1 C.2.1 dX5_hasMore_0 rfl (lv_at hl 0 rfl) ?_
  refine m_geti C hW ha0 flX5_90 dX5_hasMore_1 ?_
  refine lv_if_eq (tgt := 11) C.1 C.2.1 dX5_hasMore_4 rfl (fun c1 => ?_) (fun c1 => ?_)
  · have hf := (if_pos c1).symm.trans hf
    refine lv_iconst C.1 C.2.1 dX5_hasMore_11 ic_0 ?_
    cases hf
    exact m_zret C hW rfl dX5_hasMore_12
  · have hf := (if_neg c1).symm.trans hf
    refine lv_iconst C.1 C.2.1 dX5_hasMore_7 ic_1 ?_
    refine lv_goto (tgt := 12) C.1 C.2.1 dX5_hasMore_8 rfl ?_
    cases hf
    exact m_zret C hW rfl dX5_hasMore_12

def fX5_fail_17  (x0 : Nat) (S : MS) : Option MS := some (pI (pI S x0 5 (0 : Int32)) x0 4 (gI (pI S x0 5 (0 : Int32)) x0 3))
def fX5_fail (a0 : Nat) (a1 : Int32) (a2 : Int32) (S : MS) : Option MS := (if gI S a0 16 = (0 : Int32) then fX5_fail_17  a0 (pI (pI S a0 16 a1) a0 17 a2) else fX5_fail_17  a0 S)
set_option maxRecDepth 100000 in
theorem kX5_fail_17 {p : Program} {l : Launch} {e : Env} {s : State} {m : MethodId} {av : Array Value} {below : List Frame} {meth : Method} {c : Code} {A : Nat → Prop} {G : Gv} {L : List Nat} {q : MS}  (C : mC p s m av meth c cX5_fail RX5 3 none) : ∀ (x0 : Nat) (S : MS) (H : Heap) (locs : List Loc) (ls : Array Slot), (x0 < shX.1 ∧ shX.2.1 x0 = 5) → mW G shX L S A s H locs → lv_has ls 3 [(0, .ref (ad L x0))] → fX5_fail_17  x0 S = some q → W p l e (rmd (1)) s m av below meth c H locs 0 0 (MQ below (mQ G shX L q none A) av s 0 0 A) (F0 m 17 ls []) := by
  intro x0 S H locs ls hx0 hW hl hf
  unfold fX5_fail_17 at hf
  refine lv_aload_n C.1 C.2.1 dX5_fail_17 rfl (lv_at hl 0 rfl) ?_
  refine lv_iconst C.1 C.2.1 dX5_fail_18 ic_0 ?_
  refine m_puti C hW hx0 fpX5_90 dX5_fail_19 (fun H locs hW => ?_)
  refine lv_aload_n C.1 C.2.1 dX5_fail_22 rfl (lv_at hl 0 rfl) ?_
  refine lv_aload_n C.1 C.2.1 dX5_fail_23 rfl (lv_at hl 0 rfl) ?_
  refine m_geti C hW hx0 flX5_56 dX5_fail_24 ?_
  refine m_puti C hW hx0 fpX5_59 dX5_fail_27 (fun H locs hW => ?_)
  cases hf
  exact m_vret C hW dX5_fail_30

set_option maxRecDepth 100000 in
theorem cX5_fail_ok {l : Launch} {G : Gv} {L : List Nat} {S : MS} {a0 : Nat} {a1 : Int32} {a2 : Int32} {q : MS} (ha0 : a0 < shX.1 ∧ shX.2.1 a0 = 5) (hf : fX5_fail a0 a1 a2 S = some q) : Mt l yX5_fail cX5_fail 3 none (1) G shX L S [.ref (ad L a0), .int a1, .int a2] none q := by
  refine m_enter (lv := [(0, .ref (ad L a0)), (1, .int a1), (2, .int a2)]) (plainFor_of_name (by decide)) (Nat.le_of_ble_eq_true rfl) rfl ?_
  intro p e s m below meth c A ls C hW hl
  unfold fX5_fail at hf
  refine lv_aload_n C.1 C.2.1 dX5_fail_0 rfl (lv_at hl 0 rfl) ?_
  refine m_geti C hW ha0 flX5_78 dX5_fail_1 ?_
  refine lv_if_ne (tgt := 17) C.1 C.2.1 dX5_fail_4 rfl (fun c1 => ?_) (fun c1 => ?_)
  · have hf := (if_neg c1).symm.trans hf
    exact kX5_fail_17  C a0 _ _ _ _ ha0 hW (lv_sub hl [0] rfl) hf
  · have hf := (if_pos c1).symm.trans hf
    refine lv_aload_n C.1 C.2.1 dX5_fail_7 rfl (lv_at hl 0 rfl) ?_
    refine lv_iload_n C.1 C.2.1 dX5_fail_8 rfl (lv_at hl 1 rfl) ?_
    refine m_puti C hW ha0 fpX5_78 dX5_fail_9 (fun H locs hW => ?_)
    refine lv_aload_n C.1 C.2.1 dX5_fail_12 rfl (lv_at hl 0 rfl) ?_
    refine lv_iload_n C.1 C.2.1 dX5_fail_13 rfl (lv_at hl 2 rfl) ?_
    refine m_puti C hW ha0 fpX5_81 dX5_fail_14 (fun H locs hW => ?_)
    exact kX5_fail_17  C a0 _ _ _ _ ha0 hW (lv_sub hl [0] rfl) hf

def fX5_rankOf (a0 : Int32) (S : MS) : Option Int32 := (if a0 = (7 : Int32) then some (5 : Int32) else if a0 = (8 : Int32) then some (5 : Int32) else if a0 = (9 : Int32) then some (6 : Int32) else if a0 = (10 : Int32) then some (6 : Int32) else if a0 = (34 : Int32) then some (1 : Int32) else if a0 = (35 : Int32) then some (2 : Int32) else if a0 = (36 : Int32) then some (3 : Int32) else (if a0 < (11 : Int32) then some (0 : Int32) else (if (16 : Int32) < a0 then some (0 : Int32) else some (4 : Int32))))
set_option maxRecDepth 100000 in
theorem cX5_rankOf_ok {l : Launch} {G : Gv} {L : List Nat} {S : MS} {a0 : Int32} {q : Int32}  (hf : fX5_rankOf a0 S = some q) : Mt l yX5_rankOf cX5_rankOf 1 (some .int) (1) G shX L S [.int a0] (some (.int q)) S := by
  refine m_enter (lv := [(0, .int a0)]) (plainFor_of_name (by decide)) (Nat.le_of_ble_eq_true rfl) rfl ?_
  intro p e s m below meth c A ls C hW hl
  unfold fX5_rankOf at hf
  refine lv_iload_n C.1 C.2.1 dX5_rankOf_0 rfl (lv_at hl 0 rfl) ?_
  by_cases c1 : a0 = (7 : Int32)
  · have hf := (if_pos c1).symm.trans hf
    refine lv_lookup (tgt := 74) (off := 73) C.1 C.2.1 dX5_rankOf_1 rfl (by rw [c1]; rfl) rfl ?_
    refine lv_iconst C.1 C.2.1 dX5_rankOf_74 ic_5 ?_
    cases hf
    exact m_iret C hW dX5_rankOf_75
  have hf := (if_neg c1).symm.trans hf
  by_cases c2 : a0 = (8 : Int32)
  · have hf := (if_pos c2).symm.trans hf
    refine lv_lookup (tgt := 74) (off := 73) C.1 C.2.1 dX5_rankOf_1 rfl (by rw [c2]; rfl) rfl ?_
    refine lv_iconst C.1 C.2.1 dX5_rankOf_74 ic_5 ?_
    cases hf
    exact m_iret C hW dX5_rankOf_75
  have hf := (if_neg c2).symm.trans hf
  by_cases c3 : a0 = (9 : Int32)
  · have hf := (if_pos c3).symm.trans hf
    refine lv_lookup (tgt := 76) (off := 75) C.1 C.2.1 dX5_rankOf_1 rfl (by rw [c3]; rfl) rfl ?_
    refine lv_bipush C.1 C.2.1 dX5_rankOf_76 bp_6 ?_
    cases hf
    exact m_iret C hW dX5_rankOf_78
  have hf := (if_neg c3).symm.trans hf
  by_cases c4 : a0 = (10 : Int32)
  · have hf := (if_pos c4).symm.trans hf
    refine lv_lookup (tgt := 76) (off := 75) C.1 C.2.1 dX5_rankOf_1 rfl (by rw [c4]; rfl) rfl ?_
    refine lv_bipush C.1 C.2.1 dX5_rankOf_76 bp_6 ?_
    cases hf
    exact m_iret C hW dX5_rankOf_78
  have hf := (if_neg c4).symm.trans hf
  by_cases c5 : a0 = (34 : Int32)
  · have hf := (if_pos c5).symm.trans hf
    refine lv_lookup (tgt := 68) (off := 67) C.1 C.2.1 dX5_rankOf_1 rfl (by rw [c5]; rfl) rfl ?_
    refine lv_iconst C.1 C.2.1 dX5_rankOf_68 ic_1 ?_
    cases hf
    exact m_iret C hW dX5_rankOf_69
  have hf := (if_neg c5).symm.trans hf
  by_cases c6 : a0 = (35 : Int32)
  · have hf := (if_pos c6).symm.trans hf
    refine lv_lookup (tgt := 70) (off := 69) C.1 C.2.1 dX5_rankOf_1 rfl (by rw [c6]; rfl) rfl ?_
    refine lv_iconst C.1 C.2.1 dX5_rankOf_70 ic_2 ?_
    cases hf
    exact m_iret C hW dX5_rankOf_71
  have hf := (if_neg c6).symm.trans hf
  by_cases c7 : a0 = (36 : Int32)
  · have hf := (if_pos c7).symm.trans hf
    refine lv_lookup (tgt := 72) (off := 71) C.1 C.2.1 dX5_rankOf_1 rfl (by rw [c7]; rfl) rfl ?_
    refine lv_iconst C.1 C.2.1 dX5_rankOf_72 ic_3 ?_
    cases hf
    exact m_iret C hW dX5_rankOf_73
  have hf := (if_neg c7).symm.trans hf
  refine lv_lookup (tgt := 79) (off := 78) C.1 C.2.1 dX5_rankOf_1 rfl (by have e0 := tn_e c1 (7) (by decide); have e1 := tn_e c2 (8) (by decide); have e2 := tn_e c3 (9) (by decide); have e3 := tn_e c4 (10) (by decide); have e4 := tn_e c5 (34) (by decide); have e5 := tn_e c6 (35) (by decide); have e6 := tn_e c7 (36) (by decide); simp [Op.lookupswitch.offset, e0, Ne.symm e0, e1, Ne.symm e1, e2, Ne.symm e2, e3, Ne.symm e3, e4, Ne.symm e4, e5, Ne.symm e5, e6, Ne.symm e6]) rfl ?_
  refine lv_iload_n C.1 C.2.1 dX5_rankOf_79 rfl (lv_at hl 0 rfl) ?_
  refine lv_bipush C.1 C.2.1 dX5_rankOf_80 bp_11 ?_
  refine lv_icmp_lt (tgt := 95) C.1 C.2.1 dX5_rankOf_82 rfl (fun c8 => ?_) (fun c8 => ?_)
  · have hf := (if_pos c8).symm.trans hf
    refine lv_iconst C.1 C.2.1 dX5_rankOf_95 ic_0 ?_
    cases hf
    exact m_iret C hW dX5_rankOf_96
  · have hf := (if_neg c8).symm.trans hf
    refine lv_iload_n C.1 C.2.1 dX5_rankOf_85 rfl (lv_at hl 0 rfl) ?_
    refine lv_bipush C.1 C.2.1 dX5_rankOf_86 bp_16 ?_
    refine lv_icmp_gt (tgt := 95) C.1 C.2.1 dX5_rankOf_88 rfl (fun c9 => ?_) (fun c9 => ?_)
    · have hf := (if_pos c9).symm.trans hf
      refine lv_iconst C.1 C.2.1 dX5_rankOf_95 ic_0 ?_
      cases hf
      exact m_iret C hW dX5_rankOf_96
    · have hf := (if_neg c9).symm.trans hf
      refine lv_iconst C.1 C.2.1 dX5_rankOf_91 ic_4 ?_
      refine lv_goto (tgt := 96) C.1 C.2.1 dX5_rankOf_92 rfl ?_
      cases hf
      exact m_iret C hW dX5_rankOf_96

def fX5_lastWaiting (a0 : Nat) (S : MS) : Option Int32 := (if (gI S a0 11) ≤ (0 : Int32) then some (0 : Int32) else (if (72 : Int32) < (gI S a0 11) then some (0 : Int32) else (if bnd ((gI S a0 11) - (1 : Int32)) (lnX (gR S a0 1)) = true then some (gI S (gR S a0 1) ((gI S a0 11) - (1 : Int32)).toNatClampNeg) else none)))
set_option maxRecDepth 100000 in
theorem cX5_lastWaiting_ok {l : Launch} {G : Gv} {L : List Nat} {S : MS} {a0 : Nat} {q : Int32} (ha0 : a0 < shX.1 ∧ shX.2.1 a0 = 5) (hf : fX5_lastWaiting a0 S = some q) : Mt l yX5_lastWaiting cX5_lastWaiting 1 (some .int) (1) G shX L S [.ref (ad L a0)] (some (.int q)) S := by
  refine m_enter (lv := [(0, .ref (ad L a0))]) (plainFor_of_name (by decide)) (Nat.le_of_ble_eq_true rfl) rfl ?_
  intro p e s m below meth c A ls C hW hl
  unfold fX5_lastWaiting at hf
  refine lv_aload_n C.1 C.2.1 dX5_lastWaiting_0 rfl (lv_at hl 0 rfl) ?_
  refine m_geti C hW ha0 flX5_220 dX5_lastWaiting_1 ?_
  refine lv_if_le (tgt := 30) C.1 C.2.1 dX5_lastWaiting_4 rfl (fun c1 => ?_) (fun c1 => ?_)
  · have hf := (if_pos c1).symm.trans hf
    refine lv_iconst C.1 C.2.1 dX5_lastWaiting_30 ic_0 ?_
    cases hf
    exact m_iret C hW dX5_lastWaiting_31
  · have hf := (if_neg c1).symm.trans hf
    refine lv_aload_n C.1 C.2.1 dX5_lastWaiting_7 rfl (lv_at hl 0 rfl) ?_
    refine m_geti C hW ha0 flX5_220 dX5_lastWaiting_8 ?_
    refine lv_bipush C.1 C.2.1 dX5_lastWaiting_11 bp_72 ?_
    refine lv_icmp_gt (tgt := 30) C.1 C.2.1 dX5_lastWaiting_13 rfl (fun c2 => ?_) (fun c2 => ?_)
    · have hf := (if_pos c2).symm.trans hf
      refine lv_iconst C.1 C.2.1 dX5_lastWaiting_30 ic_0 ?_
      cases hf
      exact m_iret C hW dX5_lastWaiting_31
    · have hf := (if_neg c2).symm.trans hf
      refine lv_aload_n C.1 C.2.1 dX5_lastWaiting_16 rfl (lv_at hl 0 rfl) ?_
      refine m_getr C hW ha0 flX5_17 (by decide) dX5_lastWaiting_17 (fun hk3 => ?_)
      refine lv_aload_n C.1 C.2.1 dX5_lastWaiting_20 rfl (lv_at hl 0 rfl) ?_
      refine m_geti C hW ha0 flX5_220 dX5_lastWaiting_21 ?_
      refine lv_iconst C.1 C.2.1 dX5_lastWaiting_24 ic_1 ?_
      refine lv_isub C.1 C.2.1 dX5_lastWaiting_25 ?_
      obtain ⟨hb4, hf⟩ := gd hf
      refine m_iald C hW hk3 hb4 dX5_lastWaiting_26 ?_
      refine lv_goto (tgt := 31) C.1 C.2.1 dX5_lastWaiting_27 rfl ?_
      cases hf
      exact m_iret C hW dX5_lastWaiting_31

def fX5_hold (a0 : Nat) (a1 : Int32) (S : MS) : Option MS := (if (72 : Int32) ≤ (gI S a0 11) then some S else (if bnd (gI S a0 11) (lnX (gR S a0 1)) = true then some (pI (pI S (gR S a0 1) ((gI S a0 11).toNatClampNeg) a1) a0 11 ((gI (pI S (gR S a0 1) ((gI S a0 11).toNatClampNeg) a1) a0 11) + (1 : Int32))) else none))
set_option maxRecDepth 100000 in
theorem cX5_hold_ok {l : Launch} {G : Gv} {L : List Nat} {S : MS} {a0 : Nat} {a1 : Int32} {q : MS} (ha0 : a0 < shX.1 ∧ shX.2.1 a0 = 5) (hf : fX5_hold a0 a1 S = some q) : Mt l yX5_hold cX5_hold 2 none (1) G shX L S [.ref (ad L a0), .int a1] none q := by
  refine m_enter (lv := [(0, .ref (ad L a0)), (1, .int a1)]) (plainFor_of_name (by decide)) (Nat.le_of_ble_eq_true rfl) rfl ?_
  intro p e s m below meth c A ls C hW hl
  unfold fX5_hold at hf
  refine lv_aload_n C.1 C.2.1 dX5_hold_0 rfl (lv_at hl 0 rfl) ?_
  refine m_geti C hW ha0 flX5_220 dX5_hold_1 ?_
  refine lv_bipush C.1 C.2.1 dX5_hold_4 bp_72 ?_
  refine lv_icmp_ge (tgt := 29) C.1 C.2.1 dX5_hold_6 rfl (fun c1 => ?_) (fun c1 => ?_)
  · have hf := (if_pos c1).symm.trans hf
    cases hf
    exact m_vret C hW dX5_hold_29
  · have hf := (if_neg c1).symm.trans hf
    refine lv_aload_n C.1 C.2.1 dX5_hold_9 rfl (lv_at hl 0 rfl) ?_
    refine m_getr C hW ha0 flX5_17 (by decide) dX5_hold_10 (fun hk2 => ?_)
    refine lv_aload_n C.1 C.2.1 dX5_hold_13 rfl (lv_at hl 0 rfl) ?_
    refine m_geti C hW ha0 flX5_220 dX5_hold_14 ?_
    refine lv_iload_n C.1 C.2.1 dX5_hold_17 rfl (lv_at hl 1 rfl) ?_
    obtain ⟨hb3, hf⟩ := gd hf
    refine m_iast C hW hk2 hb3 dX5_hold_18 (fun H locs hW => ?_)
    refine lv_aload_n C.1 C.2.1 dX5_hold_19 rfl (lv_at hl 0 rfl) ?_
    refine lv_dup C.1 C.2.1 dX5_hold_20 rfl ?_
    refine m_geti C hW ha0 flX5_220 dX5_hold_21 ?_
    refine lv_iconst C.1 C.2.1 dX5_hold_24 ic_1 ?_
    refine lv_iadd C.1 C.2.1 dX5_hold_25 ?_
    refine m_puti C hW ha0 fpX5_220 dX5_hold_26 (fun H locs hW => ?_)
    cases hf
    exact m_vret C hW dX5_hold_29

def fX5_isLetter (a0 : Int32) (S : MS) : Option Int32 := (if a0 < (97 : Int32) then some (0 : Int32) else (if (122 : Int32) < a0 then some (0 : Int32) else some (1 : Int32)))
set_option maxRecDepth 100000 in
theorem cX5_isLetter_ok {l : Launch} {G : Gv} {L : List Nat} {S : MS} {a0 : Int32} {q : Int32}  (hf : fX5_isLetter a0 S = some q) : Mt l yX5_isLetter cX5_isLetter 1 (some .boolean) (1) G shX L S [.int a0] (some (.int q)) S := by
  refine m_enter (lv := [(0, .int a0)]) (plainFor_of_name (by decide)) (Nat.le_of_ble_eq_true rfl) rfl ?_
  intro p e s m below meth c A ls C hW hl
  unfold fX5_isLetter at hf
  refine lv_iload_n C.1 C.2.1 dX5_isLetter_0 rfl (lv_at hl 0 rfl) ?_
  refine lv_bipush C.1 C.2.1 dX5_isLetter_1 bp_97 ?_
  refine lv_icmp_lt (tgt := 16) C.1 C.2.1 dX5_isLetter_3 rfl (fun c1 => ?_) (fun c1 => ?_)
  · have hf := (if_pos c1).symm.trans hf
    refine lv_iconst C.1 C.2.1 dX5_isLetter_16 ic_0 ?_
    cases hf
    exact m_zret C hW rfl dX5_isLetter_17
  · have hf := (if_neg c1).symm.trans hf
    refine lv_iload_n C.1 C.2.1 dX5_isLetter_6 rfl (lv_at hl 0 rfl) ?_
    refine lv_bipush C.1 C.2.1 dX5_isLetter_7 bp_122 ?_
    refine lv_icmp_gt (tgt := 16) C.1 C.2.1 dX5_isLetter_9 rfl (fun c2 => ?_) (fun c2 => ?_)
    · have hf := (if_pos c2).symm.trans hf
      refine lv_iconst C.1 C.2.1 dX5_isLetter_16 ic_0 ?_
      cases hf
      exact m_zret C hW rfl dX5_isLetter_17
    · have hf := (if_neg c2).symm.trans hf
      refine lv_iconst C.1 C.2.1 dX5_isLetter_12 ic_1 ?_
      refine lv_goto (tgt := 17) C.1 C.2.1 dX5_isLetter_13 rfl ?_
      cases hf
      exact m_zret C hW rfl dX5_isLetter_17

def fX5_isDigit (a0 : Int32) (S : MS) : Option Int32 := (if a0 < (48 : Int32) then some (0 : Int32) else (if (57 : Int32) < a0 then some (0 : Int32) else some (1 : Int32)))
set_option maxRecDepth 100000 in
theorem cX5_isDigit_ok {l : Launch} {G : Gv} {L : List Nat} {S : MS} {a0 : Int32} {q : Int32}  (hf : fX5_isDigit a0 S = some q) : Mt l yX5_isDigit cX5_isDigit 1 (some .boolean) (1) G shX L S [.int a0] (some (.int q)) S := by
  refine m_enter (lv := [(0, .int a0)]) (plainFor_of_name (by decide)) (Nat.le_of_ble_eq_true rfl) rfl ?_
  intro p e s m below meth c A ls C hW hl
  unfold fX5_isDigit at hf
  refine lv_iload_n C.1 C.2.1 dX5_isDigit_0 rfl (lv_at hl 0 rfl) ?_
  refine lv_bipush C.1 C.2.1 dX5_isDigit_1 bp_48 ?_
  refine lv_icmp_lt (tgt := 16) C.1 C.2.1 dX5_isDigit_3 rfl (fun c1 => ?_) (fun c1 => ?_)
  · have hf := (if_pos c1).symm.trans hf
    refine lv_iconst C.1 C.2.1 dX5_isDigit_16 ic_0 ?_
    cases hf
    exact m_zret C hW rfl dX5_isDigit_17
  · have hf := (if_neg c1).symm.trans hf
    refine lv_iload_n C.1 C.2.1 dX5_isDigit_6 rfl (lv_at hl 0 rfl) ?_
    refine lv_bipush C.1 C.2.1 dX5_isDigit_7 bp_57 ?_
    refine lv_icmp_gt (tgt := 16) C.1 C.2.1 dX5_isDigit_9 rfl (fun c2 => ?_) (fun c2 => ?_)
    · have hf := (if_pos c2).symm.trans hf
      refine lv_iconst C.1 C.2.1 dX5_isDigit_16 ic_0 ?_
      cases hf
      exact m_zret C hW rfl dX5_isDigit_17
    · have hf := (if_neg c2).symm.trans hf
      refine lv_iconst C.1 C.2.1 dX5_isDigit_12 ic_1 ?_
      refine lv_goto (tgt := 17) C.1 C.2.1 dX5_isDigit_13 rfl ?_
      cases hf
      exact m_zret C hW rfl dX5_isDigit_17

def fX5_scanSign_305  (x0 : Nat) (S : MS) : Option MS := some (pI S x0 4 ((gI S x0 4) + (1 : Int32)))
def fX5_scanSign_278  (x0 : Nat) (S : MS) : Option MS := (if gI S x0 5 = (12 : Int32) then fX5_scanSign_305  x0 S else (if gI S x0 5 = (14 : Int32) then fX5_scanSign_305  x0 S else (if gI S x0 5 = (15 : Int32) then fX5_scanSign_305  x0 S else some S)))
def fX5_scanSign_273  (x0 : Nat) (S : MS) : Option MS := fX5_scanSign_278  x0 (pI S x0 5 (1 : Int32))
def fX5_scanSign_238  (x0 : Nat) (y0 : Nat) (y1 : Int32) (S : MS) : Option MS := fX5_scanSign_278  x0 (pI S y0 5 y1)
def fX5_scanSign_267  (x0 : Nat) (y0 : Nat) (y1 : Int32) (S : MS) : Option MS := fX5_scanSign_278  x0 (pI S y0 5 y1)
def fX5_scanSign_44  (x0 : Nat) (x1 : Int32) (y0 : Int32) (S : MS) : Option MS := (if x1 = (40 : Int32) then fX5_scanSign_278  x0 (pI S x0 5 (5 : Int32)) else if x1 = (41 : Int32) then fX5_scanSign_278  x0 (pI S x0 5 (6 : Int32)) else if x1 = (42 : Int32) then fX5_scanSign_278  x0 (pI S x0 5 (9 : Int32)) else if x1 = (43 : Int32) then fX5_scanSign_278  x0 (pI S x0 5 (7 : Int32)) else if x1 = (45 : Int32) then fX5_scanSign_278  x0 (pI S x0 5 (8 : Int32)) else if x1 = (47 : Int32) then fX5_scanSign_278  x0 (pI S x0 5 (10 : Int32)) else if x1 = (59 : Int32) then fX5_scanSign_278  x0 (pI S x0 5 (4 : Int32)) else if x1 = (60 : Int32) then (if y0 = (61 : Int32) then fX5_scanSign_238  x0 x0 (12 : Int32) S else (if y0 = (62 : Int32) then fX5_scanSign_238  x0 x0 (14 : Int32) S else fX5_scanSign_238  x0 x0 (11 : Int32) S)) else if x1 = (61 : Int32) then fX5_scanSign_278  x0 (pI S x0 5 (13 : Int32)) else if x1 = (62 : Int32) then (if y0 = (61 : Int32) then fX5_scanSign_267  x0 x0 (15 : Int32) S else fX5_scanSign_267  x0 x0 (16 : Int32) S) else fX5_scanSign_273  x0 S)
def fX5_scanSign (a0 : Nat) (S : MS) : Option MS := (if bnd (gI S a0 4) (lnX (gR S a0 2)) = true then (if (gI (pI S a0 4 ((gI S a0 4) + (1 : Int32))) a0 3) ≤ (gI (pI S a0 4 ((gI S a0 4) + (1 : Int32))) a0 4) then fX5_scanSign_44  a0 (gI S (gR S a0 2) (gI S a0 4).toNatClampNeg) (0 : Int32) (pI S a0 4 ((gI S a0 4) + (1 : Int32))) else (if bnd (gI (pI S a0 4 ((gI S a0 4) + (1 : Int32))) a0 4) (lnX (gR (pI S a0 4 ((gI S a0 4) + (1 : Int32))) a0 2)) = true then fX5_scanSign_44  a0 (gI S (gR S a0 2) (gI S a0 4).toNatClampNeg) (gI (pI S a0 4 ((gI S a0 4) + (1 : Int32))) (gR (pI S a0 4 ((gI S a0 4) + (1 : Int32))) a0 2) (gI (pI S a0 4 ((gI S a0 4) + (1 : Int32))) a0 4).toNatClampNeg) (pI S a0 4 ((gI S a0 4) + (1 : Int32))) else none)) else none)
set_option maxRecDepth 100000 in
theorem kX5_scanSign_305 {p : Program} {l : Launch} {e : Env} {s : State} {m : MethodId} {av : Array Value} {below : List Frame} {meth : Method} {c : Code} {A : Nat → Prop} {G : Gv} {L : List Nat} {q : MS}  (C : mC p s m av meth c cX5_scanSign RX5 3 none) : ∀ (x0 : Nat) (S : MS) (H : Heap) (locs : List Loc) (ls : Array Slot), (x0 < shX.1 ∧ shX.2.1 x0 = 5) → mW G shX L S A s H locs → lv_has ls 3 [(0, .ref (ad L x0))] → fX5_scanSign_305  x0 S = some q → W p l e (rmd (1)) s m av below meth c H locs 0 0 (MQ below (mQ G shX L q none A) av s 0 0 A) (F0 m 305 ls []) := by
  intro x0 S H locs ls hx0 hW hl hf
  unfold fX5_scanSign_305 at hf
  refine lv_aload_n C.1 C.2.1 dX5_scanSign_305 rfl (lv_at hl 0 rfl) ?_
  refine lv_dup C.1 C.2.1 dX5_scanSign_306 rfl ?_
  refine m_geti C hW hx0 flX5_59 dX5_scanSign_307 ?_
  refine lv_iconst C.1 C.2.1 dX5_scanSign_310 ic_1 ?_
  refine lv_iadd C.1 C.2.1 dX5_scanSign_311 ?_
  refine m_puti C hW hx0 fpX5_59 dX5_scanSign_312 (fun H locs hW => ?_)
  cases hf
  exact m_vret C hW dX5_scanSign_315

set_option maxRecDepth 100000 in
theorem kX5_scanSign_278 {p : Program} {l : Launch} {e : Env} {s : State} {m : MethodId} {av : Array Value} {below : List Frame} {meth : Method} {c : Code} {A : Nat → Prop} {G : Gv} {L : List Nat} {q : MS}  (C : mC p s m av meth c cX5_scanSign RX5 3 none) : ∀ (x0 : Nat) (S : MS) (H : Heap) (locs : List Loc) (ls : Array Slot), (x0 < shX.1 ∧ shX.2.1 x0 = 5) → mW G shX L S A s H locs → lv_has ls 3 [(0, .ref (ad L x0))] → fX5_scanSign_278  x0 S = some q → W p l e (rmd (1)) s m av below meth c H locs 0 0 (MQ below (mQ G shX L q none A) av s 0 0 A) (F0 m 278 ls []) := by
  intro x0 S H locs ls hx0 hW hl hf
  unfold fX5_scanSign_278 at hf
  refine lv_aload_n C.1 C.2.1 dX5_scanSign_278 rfl (lv_at hl 0 rfl) ?_
  refine m_geti C hW hx0 flX5_90 dX5_scanSign_279 ?_
  refine lv_bipush C.1 C.2.1 dX5_scanSign_282 bp_12 ?_
  refine lv_icmp_eq (tgt := 305) C.1 C.2.1 dX5_scanSign_284 rfl (fun c1 => ?_) (fun c1 => ?_)
  · have hf := (if_pos c1).symm.trans hf
    exact kX5_scanSign_305  C x0 _ _ _ _ hx0 hW (lv_sub hl [0] rfl) hf
  · have hf := (if_neg c1).symm.trans hf
    refine lv_aload_n C.1 C.2.1 dX5_scanSign_287 rfl (lv_at hl 0 rfl) ?_
    refine m_geti C hW hx0 flX5_90 dX5_scanSign_288 ?_
    refine lv_bipush C.1 C.2.1 dX5_scanSign_291 bp_14 ?_
    refine lv_icmp_eq (tgt := 305) C.1 C.2.1 dX5_scanSign_293 rfl (fun c2 => ?_) (fun c2 => ?_)
    · have hf := (if_pos c2).symm.trans hf
      exact kX5_scanSign_305  C x0 _ _ _ _ hx0 hW (lv_sub hl [0] rfl) hf
    · have hf := (if_neg c2).symm.trans hf
      refine lv_aload_n C.1 C.2.1 dX5_scanSign_296 rfl (lv_at hl 0 rfl) ?_
      refine m_geti C hW hx0 flX5_90 dX5_scanSign_297 ?_
      refine lv_bipush C.1 C.2.1 dX5_scanSign_300 bp_15 ?_
      refine lv_icmp_ne (tgt := 315) C.1 C.2.1 dX5_scanSign_302 rfl (fun c3 => ?_) (fun c3 => ?_)
      · have hf := (if_neg c3).symm.trans hf
        cases hf
        exact m_vret C hW dX5_scanSign_315
      · have hf := (if_pos c3).symm.trans hf
        exact kX5_scanSign_305  C x0 _ _ _ _ hx0 hW (lv_sub hl [0] rfl) hf

set_option maxRecDepth 100000 in
theorem kX5_scanSign_273 {p : Program} {l : Launch} {e : Env} {s : State} {m : MethodId} {av : Array Value} {below : List Frame} {meth : Method} {c : Code} {A : Nat → Prop} {G : Gv} {L : List Nat} {q : MS}  (C : mC p s m av meth c cX5_scanSign RX5 3 none) : ∀ (x0 : Nat) (S : MS) (H : Heap) (locs : List Loc) (ls : Array Slot), (x0 < shX.1 ∧ shX.2.1 x0 = 5) → mW G shX L S A s H locs → lv_has ls 3 [(0, .ref (ad L x0))] → fX5_scanSign_273  x0 S = some q → W p l e (rmd (1)) s m av below meth c H locs 0 0 (MQ below (mQ G shX L q none A) av s 0 0 A) (F0 m 273 ls []) := by
  intro x0 S H locs ls hx0 hW hl hf
  unfold fX5_scanSign_273 at hf
  refine lv_aload_n C.1 C.2.1 dX5_scanSign_273 rfl (lv_at hl 0 rfl) ?_
  refine lv_iconst C.1 C.2.1 dX5_scanSign_274 ic_1 ?_
  refine m_puti C hW hx0 fpX5_90 dX5_scanSign_275 (fun H locs hW => ?_)
  exact kX5_scanSign_278  C x0 _ _ _ _ hx0 hW (lv_sub hl [0] rfl) hf

set_option maxRecDepth 100000 in
theorem kX5_scanSign_238 {p : Program} {l : Launch} {e : Env} {s : State} {m : MethodId} {av : Array Value} {below : List Frame} {meth : Method} {c : Code} {A : Nat → Prop} {G : Gv} {L : List Nat} {q : MS}  (C : mC p s m av meth c cX5_scanSign RX5 3 none) : ∀ (x0 : Nat) (y0 : Nat) (y1 : Int32) (S : MS) (H : Heap) (locs : List Loc) (ls : Array Slot), (x0 < shX.1 ∧ shX.2.1 x0 = 5) → (y0 < shX.1 ∧ shX.2.1 y0 = 5) → mW G shX L S A s H locs → lv_has ls 3 [(0, .ref (ad L x0))] → fX5_scanSign_238  x0 y0 y1 S = some q → W p l e (rmd (1)) s m av below meth c H locs 0 0 (MQ below (mQ G shX L q none A) av s 0 0 A) (F0 m 238 ls [.int y1, .ref (ad L y0)]) := by
  intro x0 y0 y1 S H locs ls hx0 hy0 hW hl hf
  unfold fX5_scanSign_238 at hf
  refine m_puti C hW hy0 fpX5_90 dX5_scanSign_238 (fun H locs hW => ?_)
  refine lv_goto (tgt := 278) C.1 C.2.1 dX5_scanSign_241 rfl ?_
  exact kX5_scanSign_278  C x0 _ _ _ _ hx0 hW (lv_sub hl [0] rfl) hf

set_option maxRecDepth 100000 in
theorem kX5_scanSign_267 {p : Program} {l : Launch} {e : Env} {s : State} {m : MethodId} {av : Array Value} {below : List Frame} {meth : Method} {c : Code} {A : Nat → Prop} {G : Gv} {L : List Nat} {q : MS}  (C : mC p s m av meth c cX5_scanSign RX5 3 none) : ∀ (x0 : Nat) (y0 : Nat) (y1 : Int32) (S : MS) (H : Heap) (locs : List Loc) (ls : Array Slot), (x0 < shX.1 ∧ shX.2.1 x0 = 5) → (y0 < shX.1 ∧ shX.2.1 y0 = 5) → mW G shX L S A s H locs → lv_has ls 3 [(0, .ref (ad L x0))] → fX5_scanSign_267  x0 y0 y1 S = some q → W p l e (rmd (1)) s m av below meth c H locs 0 0 (MQ below (mQ G shX L q none A) av s 0 0 A) (F0 m 267 ls [.int y1, .ref (ad L y0)]) := by
  intro x0 y0 y1 S H locs ls hx0 hy0 hW hl hf
  unfold fX5_scanSign_267 at hf
  refine m_puti C hW hy0 fpX5_90 dX5_scanSign_267 (fun H locs hW => ?_)
  refine lv_goto (tgt := 278) C.1 C.2.1 dX5_scanSign_270 rfl ?_
  exact kX5_scanSign_278  C x0 _ _ _ _ hx0 hW (lv_sub hl [0] rfl) hf

set_option maxRecDepth 100000 in
theorem kX5_scanSign_44 {p : Program} {l : Launch} {e : Env} {s : State} {m : MethodId} {av : Array Value} {below : List Frame} {meth : Method} {c : Code} {A : Nat → Prop} {G : Gv} {L : List Nat} {q : MS}  (C : mC p s m av meth c cX5_scanSign RX5 3 none) : ∀ (x0 : Nat) (x1 : Int32) (y0 : Int32) (S : MS) (H : Heap) (locs : List Loc) (ls : Array Slot), (x0 < shX.1 ∧ shX.2.1 x0 = 5) → mW G shX L S A s H locs → lv_has ls 3 [(0, .ref (ad L x0)), (1, .int x1)] → fX5_scanSign_44  x0 x1 y0 S = some q → W p l e (rmd (1)) s m av below meth c H locs 0 0 (MQ below (mQ G shX L q none A) av s 0 0 A) (F0 m 44 ls [.int y0]) := by
  intro x0 x1 y0 S H locs ls hx0 hW hl hf
  unfold fX5_scanSign_44 at hf
  refine lv_istore_n (lv' := [(2, .int y0), (0, .ref (ad L x0)), (1, .int x1)]) C.1 C.2.1 dX5_scanSign_44 rfl hl (by decide) rfl (fun ls hl => ?_)
  refine lv_iload_n C.1 C.2.1 dX5_scanSign_45 rfl (lv_at hl 2 rfl) ?_
  by_cases c4 : x1 = (40 : Int32)
  · have hf := (if_pos c4).symm.trans hf
    refine lv_tableIn (tgt := 160) C.1 C.2.1 dX5_scanSign_46 (by rw [c4]; decide) (by rw [c4]; decide) (by rw [c4]; rfl) rfl ?_
    refine lv_aload_n C.1 C.2.1 dX5_scanSign_160 rfl (lv_at hl 1 rfl) ?_
    refine lv_iconst C.1 C.2.1 dX5_scanSign_161 ic_5 ?_
    refine m_puti C hW hx0 fpX5_90 dX5_scanSign_162 (fun H locs hW => ?_)
    refine lv_goto (tgt := 278) C.1 C.2.1 dX5_scanSign_165 rfl ?_
    exact kX5_scanSign_278  C x0 _ _ _ _ hx0 hW (lv_sub hl [1] rfl) hf
  have hf := (if_neg c4).symm.trans hf
  by_cases c5 : x1 = (41 : Int32)
  · have hf := (if_pos c5).symm.trans hf
    refine lv_tableIn (tgt := 168) C.1 C.2.1 dX5_scanSign_46 (by rw [c5]; decide) (by rw [c5]; decide) (by rw [c5]; rfl) rfl ?_
    refine lv_aload_n C.1 C.2.1 dX5_scanSign_168 rfl (lv_at hl 1 rfl) ?_
    refine lv_bipush C.1 C.2.1 dX5_scanSign_169 bp_6 ?_
    refine m_puti C hW hx0 fpX5_90 dX5_scanSign_171 (fun H locs hW => ?_)
    refine lv_goto (tgt := 278) C.1 C.2.1 dX5_scanSign_174 rfl ?_
    exact kX5_scanSign_278  C x0 _ _ _ _ hx0 hW (lv_sub hl [1] rfl) hf
  have hf := (if_neg c5).symm.trans hf
  by_cases c6 : x1 = (42 : Int32)
  · have hf := (if_pos c6).symm.trans hf
    refine lv_tableIn (tgt := 195) C.1 C.2.1 dX5_scanSign_46 (by rw [c6]; decide) (by rw [c6]; decide) (by rw [c6]; rfl) rfl ?_
    refine lv_aload_n C.1 C.2.1 dX5_scanSign_195 rfl (lv_at hl 1 rfl) ?_
    refine lv_bipush C.1 C.2.1 dX5_scanSign_196 bp_9 ?_
    refine m_puti C hW hx0 fpX5_90 dX5_scanSign_198 (fun H locs hW => ?_)
    refine lv_goto (tgt := 278) C.1 C.2.1 dX5_scanSign_201 rfl ?_
    exact kX5_scanSign_278  C x0 _ _ _ _ hx0 hW (lv_sub hl [1] rfl) hf
  have hf := (if_neg c6).symm.trans hf
  by_cases c7 : x1 = (43 : Int32)
  · have hf := (if_pos c7).symm.trans hf
    refine lv_tableIn (tgt := 177) C.1 C.2.1 dX5_scanSign_46 (by rw [c7]; decide) (by rw [c7]; decide) (by rw [c7]; rfl) rfl ?_
    refine lv_aload_n C.1 C.2.1 dX5_scanSign_177 rfl (lv_at hl 1 rfl) ?_
    refine lv_bipush C.1 C.2.1 dX5_scanSign_178 bp_7 ?_
    refine m_puti C hW hx0 fpX5_90 dX5_scanSign_180 (fun H locs hW => ?_)
    refine lv_goto (tgt := 278) C.1 C.2.1 dX5_scanSign_183 rfl ?_
    exact kX5_scanSign_278  C x0 _ _ _ _ hx0 hW (lv_sub hl [1] rfl) hf
  have hf := (if_neg c7).symm.trans hf
  by_cases c8 : x1 = (45 : Int32)
  · have hf := (if_pos c8).symm.trans hf
    refine lv_tableIn (tgt := 186) C.1 C.2.1 dX5_scanSign_46 (by rw [c8]; decide) (by rw [c8]; decide) (by rw [c8]; rfl) rfl ?_
    refine lv_aload_n C.1 C.2.1 dX5_scanSign_186 rfl (lv_at hl 1 rfl) ?_
    refine lv_bipush C.1 C.2.1 dX5_scanSign_187 bp_8 ?_
    refine m_puti C hW hx0 fpX5_90 dX5_scanSign_189 (fun H locs hW => ?_)
    refine lv_goto (tgt := 278) C.1 C.2.1 dX5_scanSign_192 rfl ?_
    exact kX5_scanSign_278  C x0 _ _ _ _ hx0 hW (lv_sub hl [1] rfl) hf
  have hf := (if_neg c8).symm.trans hf
  by_cases c9 : x1 = (47 : Int32)
  · have hf := (if_pos c9).symm.trans hf
    refine lv_tableIn (tgt := 204) C.1 C.2.1 dX5_scanSign_46 (by rw [c9]; decide) (by rw [c9]; decide) (by rw [c9]; rfl) rfl ?_
    refine lv_aload_n C.1 C.2.1 dX5_scanSign_204 rfl (lv_at hl 1 rfl) ?_
    refine lv_bipush C.1 C.2.1 dX5_scanSign_205 bp_10 ?_
    refine m_puti C hW hx0 fpX5_90 dX5_scanSign_207 (fun H locs hW => ?_)
    refine lv_goto (tgt := 278) C.1 C.2.1 dX5_scanSign_210 rfl ?_
    exact kX5_scanSign_278  C x0 _ _ _ _ hx0 hW (lv_sub hl [1] rfl) hf
  have hf := (if_neg c9).symm.trans hf
  by_cases c10 : x1 = (59 : Int32)
  · have hf := (if_pos c10).symm.trans hf
    refine lv_tableIn (tgt := 152) C.1 C.2.1 dX5_scanSign_46 (by rw [c10]; decide) (by rw [c10]; decide) (by rw [c10]; rfl) rfl ?_
    refine lv_aload_n C.1 C.2.1 dX5_scanSign_152 rfl (lv_at hl 1 rfl) ?_
    refine lv_iconst C.1 C.2.1 dX5_scanSign_153 ic_4 ?_
    refine m_puti C hW hx0 fpX5_90 dX5_scanSign_154 (fun H locs hW => ?_)
    refine lv_goto (tgt := 278) C.1 C.2.1 dX5_scanSign_157 rfl ?_
    exact kX5_scanSign_278  C x0 _ _ _ _ hx0 hW (lv_sub hl [1] rfl) hf
  have hf := (if_neg c10).symm.trans hf
  by_cases c11 : x1 = (60 : Int32)
  · have hf := (if_pos c11).symm.trans hf
    refine lv_tableIn (tgt := 213) C.1 C.2.1 dX5_scanSign_46 (by rw [c11]; decide) (by rw [c11]; decide) (by rw [c11]; rfl) rfl ?_
    refine lv_aload_n C.1 C.2.1 dX5_scanSign_213 rfl (lv_at hl 1 rfl) ?_
    refine lv_iload_n C.1 C.2.1 dX5_scanSign_214 rfl (lv_at hl 0 rfl) ?_
    refine lv_bipush C.1 C.2.1 dX5_scanSign_215 bp_61 ?_
    refine lv_icmp_ne (tgt := 225) C.1 C.2.1 dX5_scanSign_217 rfl (fun c12 => ?_) (fun c12 => ?_)
    · have hf := (if_neg c12).symm.trans hf
      refine lv_iload_n C.1 C.2.1 dX5_scanSign_225 rfl (lv_at hl 0 rfl) ?_
      refine lv_bipush C.1 C.2.1 dX5_scanSign_226 bp_62 ?_
      refine lv_icmp_ne (tgt := 236) C.1 C.2.1 dX5_scanSign_228 rfl (fun c13 => ?_) (fun c13 => ?_)
      · have hf := (if_neg c13).symm.trans hf
        refine lv_bipush C.1 C.2.1 dX5_scanSign_236 bp_11 ?_
        exact kX5_scanSign_238  C x0 x0 (11 : Int32) _ _ _ _ hx0 hx0 hW (lv_sub hl [1] rfl) hf
      · have hf := (if_pos c13).symm.trans hf
        refine lv_bipush C.1 C.2.1 dX5_scanSign_231 bp_14 ?_
        refine lv_goto (tgt := 238) C.1 C.2.1 dX5_scanSign_233 rfl ?_
        exact kX5_scanSign_238  C x0 x0 (14 : Int32) _ _ _ _ hx0 hx0 hW (lv_sub hl [1] rfl) hf
    · have hf := (if_pos c12).symm.trans hf
      refine lv_bipush C.1 C.2.1 dX5_scanSign_220 bp_12 ?_
      refine lv_goto (tgt := 238) C.1 C.2.1 dX5_scanSign_222 rfl ?_
      exact kX5_scanSign_238  C x0 x0 (12 : Int32) _ _ _ _ hx0 hx0 hW (lv_sub hl [1] rfl) hf
  have hf := (if_neg c11).symm.trans hf
  by_cases c14 : x1 = (61 : Int32)
  · have hf := (if_pos c14).symm.trans hf
    refine lv_tableIn (tgt := 244) C.1 C.2.1 dX5_scanSign_46 (by rw [c14]; decide) (by rw [c14]; decide) (by rw [c14]; rfl) rfl ?_
    refine lv_aload_n C.1 C.2.1 dX5_scanSign_244 rfl (lv_at hl 1 rfl) ?_
    refine lv_bipush C.1 C.2.1 dX5_scanSign_245 bp_13 ?_
    refine m_puti C hW hx0 fpX5_90 dX5_scanSign_247 (fun H locs hW => ?_)
    refine lv_goto (tgt := 278) C.1 C.2.1 dX5_scanSign_250 rfl ?_
    exact kX5_scanSign_278  C x0 _ _ _ _ hx0 hW (lv_sub hl [1] rfl) hf
  have hf := (if_neg c14).symm.trans hf
  by_cases c15 : x1 = (62 : Int32)
  · have hf := (if_pos c15).symm.trans hf
    refine lv_tableIn (tgt := 253) C.1 C.2.1 dX5_scanSign_46 (by rw [c15]; decide) (by rw [c15]; decide) (by rw [c15]; rfl) rfl ?_
    refine lv_aload_n C.1 C.2.1 dX5_scanSign_253 rfl (lv_at hl 1 rfl) ?_
    refine lv_iload_n C.1 C.2.1 dX5_scanSign_254 rfl (lv_at hl 0 rfl) ?_
    refine lv_bipush C.1 C.2.1 dX5_scanSign_255 bp_61 ?_
    refine lv_icmp_ne (tgt := 265) C.1 C.2.1 dX5_scanSign_257 rfl (fun c16 => ?_) (fun c16 => ?_)
    · have hf := (if_neg c16).symm.trans hf
      refine lv_bipush C.1 C.2.1 dX5_scanSign_265 bp_16 ?_
      exact kX5_scanSign_267  C x0 x0 (16 : Int32) _ _ _ _ hx0 hx0 hW (lv_sub hl [1] rfl) hf
    · have hf := (if_pos c16).symm.trans hf
      refine lv_bipush C.1 C.2.1 dX5_scanSign_260 bp_15 ?_
      refine lv_goto (tgt := 267) C.1 C.2.1 dX5_scanSign_262 rfl ?_
      exact kX5_scanSign_267  C x0 x0 (15 : Int32) _ _ _ _ hx0 hx0 hW (lv_sub hl [1] rfl) hf
  have hf := (if_neg c15).symm.trans hf
  by_cases ho17 : x1.toInt < 40 ∨ 62 < x1.toInt
  · refine lv_tableOut (tgt := 273) C.1 C.2.1 dX5_scanSign_46 ho17 rfl ?_
    exact kX5_scanSign_273  C x0 _ _ _ _ hx0 hW (lv_sub hl [1] rfl) hf
  · by_cases c18 : x1 = (44 : Int32)
    · refine lv_tableIn (tgt := 273) C.1 C.2.1 dX5_scanSign_46 (by rw [c18]; decide) (by rw [c18]; decide) (by rw [c18]; rfl) rfl ?_
      exact kX5_scanSign_273  C x0 _ _ _ _ hx0 hW (lv_sub hl [1] rfl) hf
    by_cases c19 : x1 = (46 : Int32)
    · refine lv_tableIn (tgt := 273) C.1 C.2.1 dX5_scanSign_46 (by rw [c19]; decide) (by rw [c19]; decide) (by rw [c19]; rfl) rfl ?_
      exact kX5_scanSign_273  C x0 _ _ _ _ hx0 hW (lv_sub hl [1] rfl) hf
    by_cases c20 : x1 = (48 : Int32)
    · refine lv_tableIn (tgt := 273) C.1 C.2.1 dX5_scanSign_46 (by rw [c20]; decide) (by rw [c20]; decide) (by rw [c20]; rfl) rfl ?_
      exact kX5_scanSign_273  C x0 _ _ _ _ hx0 hW (lv_sub hl [1] rfl) hf
    by_cases c21 : x1 = (49 : Int32)
    · refine lv_tableIn (tgt := 273) C.1 C.2.1 dX5_scanSign_46 (by rw [c21]; decide) (by rw [c21]; decide) (by rw [c21]; rfl) rfl ?_
      exact kX5_scanSign_273  C x0 _ _ _ _ hx0 hW (lv_sub hl [1] rfl) hf
    by_cases c22 : x1 = (50 : Int32)
    · refine lv_tableIn (tgt := 273) C.1 C.2.1 dX5_scanSign_46 (by rw [c22]; decide) (by rw [c22]; decide) (by rw [c22]; rfl) rfl ?_
      exact kX5_scanSign_273  C x0 _ _ _ _ hx0 hW (lv_sub hl [1] rfl) hf
    by_cases c23 : x1 = (51 : Int32)
    · refine lv_tableIn (tgt := 273) C.1 C.2.1 dX5_scanSign_46 (by rw [c23]; decide) (by rw [c23]; decide) (by rw [c23]; rfl) rfl ?_
      exact kX5_scanSign_273  C x0 _ _ _ _ hx0 hW (lv_sub hl [1] rfl) hf
    by_cases c24 : x1 = (52 : Int32)
    · refine lv_tableIn (tgt := 273) C.1 C.2.1 dX5_scanSign_46 (by rw [c24]; decide) (by rw [c24]; decide) (by rw [c24]; rfl) rfl ?_
      exact kX5_scanSign_273  C x0 _ _ _ _ hx0 hW (lv_sub hl [1] rfl) hf
    by_cases c25 : x1 = (53 : Int32)
    · refine lv_tableIn (tgt := 273) C.1 C.2.1 dX5_scanSign_46 (by rw [c25]; decide) (by rw [c25]; decide) (by rw [c25]; rfl) rfl ?_
      exact kX5_scanSign_273  C x0 _ _ _ _ hx0 hW (lv_sub hl [1] rfl) hf
    by_cases c26 : x1 = (54 : Int32)
    · refine lv_tableIn (tgt := 273) C.1 C.2.1 dX5_scanSign_46 (by rw [c26]; decide) (by rw [c26]; decide) (by rw [c26]; rfl) rfl ?_
      exact kX5_scanSign_273  C x0 _ _ _ _ hx0 hW (lv_sub hl [1] rfl) hf
    by_cases c27 : x1 = (55 : Int32)
    · refine lv_tableIn (tgt := 273) C.1 C.2.1 dX5_scanSign_46 (by rw [c27]; decide) (by rw [c27]; decide) (by rw [c27]; rfl) rfl ?_
      exact kX5_scanSign_273  C x0 _ _ _ _ hx0 hW (lv_sub hl [1] rfl) hf
    by_cases c28 : x1 = (56 : Int32)
    · refine lv_tableIn (tgt := 273) C.1 C.2.1 dX5_scanSign_46 (by rw [c28]; decide) (by rw [c28]; decide) (by rw [c28]; rfl) rfl ?_
      exact kX5_scanSign_273  C x0 _ _ _ _ hx0 hW (lv_sub hl [1] rfl) hf
    by_cases c29 : x1 = (57 : Int32)
    · refine lv_tableIn (tgt := 273) C.1 C.2.1 dX5_scanSign_46 (by rw [c29]; decide) (by rw [c29]; decide) (by rw [c29]; rfl) rfl ?_
      exact kX5_scanSign_273  C x0 _ _ _ _ hx0 hW (lv_sub hl [1] rfl) hf
    by_cases c30 : x1 = (58 : Int32)
    · refine lv_tableIn (tgt := 273) C.1 C.2.1 dX5_scanSign_46 (by rw [c30]; decide) (by rw [c30]; decide) (by rw [c30]; rfl) rfl ?_
      exact kX5_scanSign_273  C x0 _ _ _ _ hx0 hW (lv_sub hl [1] rfl) hf
    exfalso
    have := tn_e c4 (40) (by decide)
    have := tn_e c5 (41) (by decide)
    have := tn_e c6 (42) (by decide)
    have := tn_e c7 (43) (by decide)
    have := tn_e c8 (45) (by decide)
    have := tn_e c9 (47) (by decide)
    have := tn_e c10 (59) (by decide)
    have := tn_e c11 (60) (by decide)
    have := tn_e c14 (61) (by decide)
    have := tn_e c15 (62) (by decide)
    have := tn_e c18 (44) (by decide)
    have := tn_e c19 (46) (by decide)
    have := tn_e c20 (48) (by decide)
    have := tn_e c21 (49) (by decide)
    have := tn_e c22 (50) (by decide)
    have := tn_e c23 (51) (by decide)
    have := tn_e c24 (52) (by decide)
    have := tn_e c25 (53) (by decide)
    have := tn_e c26 (54) (by decide)
    have := tn_e c27 (55) (by decide)
    have := tn_e c28 (56) (by decide)
    have := tn_e c29 (57) (by decide)
    have := tn_e c30 (58) (by decide)
    omega

set_option maxRecDepth 100000 in
theorem cX5_scanSign_ok {l : Launch} {G : Gv} {L : List Nat} {S : MS} {a0 : Nat} {q : MS} (ha0 : a0 < shX.1 ∧ shX.2.1 a0 = 5) (hf : fX5_scanSign a0 S = some q) : Mt l yX5_scanSign cX5_scanSign 3 none (1) G shX L S [.ref (ad L a0)] none q := by
  refine m_enter (lv := [(0, .ref (ad L a0))]) (plainFor_of_name (by decide)) (Nat.le_of_ble_eq_true rfl) rfl ?_
  intro p e s m below meth c A ls C hW hl
  unfold fX5_scanSign at hf
  refine lv_aload_n C.1 C.2.1 dX5_scanSign_0 rfl (lv_at hl 0 rfl) ?_
  refine m_getr C hW ha0 flX5_20 (by decide) dX5_scanSign_1 (fun hk31 => ?_)
  refine lv_aload_n C.1 C.2.1 dX5_scanSign_4 rfl (lv_at hl 0 rfl) ?_
  refine m_geti C hW ha0 flX5_59 dX5_scanSign_5 ?_
  obtain ⟨hb32, hf⟩ := gd hf
  refine m_bald C hW hk31 hb32 dX5_scanSign_8 ?_
  refine lv_istore_n (lv' := [(1, .int (gI S (gR S a0 2) (gI S a0 4).toNatClampNeg)), (0, .ref (ad L a0))]) C.1 C.2.1 dX5_scanSign_9 rfl hl (by decide) rfl (fun ls hl => ?_)
  refine lv_aload_n C.1 C.2.1 dX5_scanSign_10 rfl (lv_at hl 1 rfl) ?_
  refine lv_dup C.1 C.2.1 dX5_scanSign_11 rfl ?_
  refine m_geti C hW ha0 flX5_59 dX5_scanSign_12 ?_
  refine lv_iconst C.1 C.2.1 dX5_scanSign_15 ic_1 ?_
  refine lv_iadd C.1 C.2.1 dX5_scanSign_16 ?_
  refine m_puti C hW ha0 fpX5_59 dX5_scanSign_17 (fun H locs hW => ?_)
  refine lv_aload_n C.1 C.2.1 dX5_scanSign_20 rfl (lv_at hl 1 rfl) ?_
  refine m_geti C hW ha0 flX5_59 dX5_scanSign_21 ?_
  refine lv_aload_n C.1 C.2.1 dX5_scanSign_24 rfl (lv_at hl 1 rfl) ?_
  refine m_geti C hW ha0 flX5_56 dX5_scanSign_25 ?_
  refine lv_icmp_ge (tgt := 43) C.1 C.2.1 dX5_scanSign_28 rfl (fun c33 => ?_) (fun c33 => ?_)
  · have hf := (if_pos c33).symm.trans hf
    refine lv_iconst C.1 C.2.1 dX5_scanSign_43 ic_0 ?_
    exact kX5_scanSign_44  C a0 (gI S (gR S a0 2) (gI S a0 4).toNatClampNeg) (0 : Int32) _ _ _ _ ha0 hW (lv_sub hl [1, 0] rfl) hf
  · have hf := (if_neg c33).symm.trans hf
    refine lv_aload_n C.1 C.2.1 dX5_scanSign_31 rfl (lv_at hl 1 rfl) ?_
    refine m_getr C hW ha0 flX5_20 (by decide) dX5_scanSign_32 (fun hk34 => ?_)
    refine lv_aload_n C.1 C.2.1 dX5_scanSign_35 rfl (lv_at hl 1 rfl) ?_
    refine m_geti C hW ha0 flX5_59 dX5_scanSign_36 ?_
    obtain ⟨hb35, hf⟩ := gd hf
    refine m_bald C hW hk34 hb35 dX5_scanSign_39 ?_
    refine lv_goto (tgt := 44) C.1 C.2.1 dX5_scanSign_40 rfl ?_
    exact kX5_scanSign_44  C a0 (gI S (gR S a0 2) (gI S a0 4).toNatClampNeg) (gI (pI S a0 4 ((gI S a0 4) + (1 : Int32))) (gR (pI S a0 4 ((gI S a0 4) + (1 : Int32))) a0 2) (gI (pI S a0 4 ((gI S a0 4) + (1 : Int32))) a0 4).toNatClampNeg) _ _ _ _ ha0 hW (lv_sub hl [1, 0] rfl) hf

def fX7_empty (a0 : Nat) (S : MS) : Option MS := some (pI S a0 3 (0 : Int32))
set_option maxRecDepth 100000 in
theorem cX7_empty_ok {l : Launch} {G : Gv} {L : List Nat} {S : MS} {a0 : Nat} {q : MS} (ha0 : a0 < shX.1 ∧ shX.2.1 a0 = 7) (hf : fX7_empty a0 S = some q) : Mt l yX7_empty cX7_empty 1 none (1) G shX L S [.ref (ad L a0)] none q := by
  refine m_enter (lv := [(0, .ref (ad L a0))]) (plainFor_of_name (by decide)) (Nat.le_of_ble_eq_true rfl) rfl ?_
  intro p e s m below meth c A ls C hW hl
  unfold fX7_empty at hf
  refine lv_aload_n C.1 C.2.1 dX7_empty_0 rfl (lv_at hl 0 rfl) ?_
  refine lv_iconst C.1 C.2.1 dX7_empty_1 ic_0 ?_
  refine m_puti C hW ha0 fpX7_22 dX7_empty_2 (fun H locs hW => ?_)
  cases hf
  exact m_vret C hW dX7_empty_5

def fX7_size (a0 : Nat) (S : MS) : Option Int32 := some (gI S a0 3)
set_option maxRecDepth 100000 in
theorem cX7_size_ok {l : Launch} {G : Gv} {L : List Nat} {S : MS} {a0 : Nat} {q : Int32} (ha0 : a0 < shX.1 ∧ shX.2.1 a0 = 7) (hf : fX7_size a0 S = some q) : Mt l yX7_size cX7_size 1 (some .int) (1) G shX L S [.ref (ad L a0)] (some (.int q)) S := by
  refine m_enter (lv := [(0, .ref (ad L a0))]) (plainFor_of_name (by decide)) (Nat.le_of_ble_eq_true rfl) rfl ?_
  intro p e s m below meth c A ls C hW hl
  unfold fX7_size at hf
  refine lv_aload_n C.1 C.2.1 dX7_size_0 rfl (lv_at hl 0 rfl) ?_
  refine m_geti C hW ha0 flX7_22 dX7_size_1 ?_
  cases hf
  exact m_iret C hW dX7_size_4

def fX7_isFull (a0 : Nat) (S : MS) : Option Int32 := (if (gI S a0 3) < (gI S a0 1) then some (0 : Int32) else some (1 : Int32))
set_option maxRecDepth 100000 in
theorem cX7_isFull_ok {l : Launch} {G : Gv} {L : List Nat} {S : MS} {a0 : Nat} {q : Int32} (ha0 : a0 < shX.1 ∧ shX.2.1 a0 = 7) (hf : fX7_isFull a0 S = some q) : Mt l yX7_isFull cX7_isFull 1 (some .boolean) (1) G shX L S [.ref (ad L a0)] (some (.int q)) S := by
  refine m_enter (lv := [(0, .ref (ad L a0))]) (plainFor_of_name (by decide)) (Nat.le_of_ble_eq_true rfl) rfl ?_
  intro p e s m below meth c A ls C hW hl
  unfold fX7_isFull at hf
  refine lv_aload_n C.1 C.2.1 dX7_isFull_0 rfl (lv_at hl 0 rfl) ?_
  refine m_geti C hW ha0 flX7_22 dX7_isFull_1 ?_
  refine lv_aload_n C.1 C.2.1 dX7_isFull_4 rfl (lv_at hl 0 rfl) ?_
  refine m_geti C hW ha0 flX7_15 dX7_isFull_5 ?_
  refine lv_icmp_lt (tgt := 15) C.1 C.2.1 dX7_isFull_8 rfl (fun c1 => ?_) (fun c1 => ?_)
  · have hf := (if_pos c1).symm.trans hf
    refine lv_iconst C.1 C.2.1 dX7_isFull_15 ic_0 ?_
    cases hf
    exact m_zret C hW rfl dX7_isFull_16
  · have hf := (if_neg c1).symm.trans hf
    refine lv_iconst C.1 C.2.1 dX7_isFull_11 ic_1 ?_
    refine lv_goto (tgt := 16) C.1 C.2.1 dX7_isFull_12 rfl ?_
    cases hf
    exact m_zret C hW rfl dX7_isFull_16

def fX7_has (a0 : Nat) (a1 : Int32) (S : MS) : Option Int32 := (if a1 < (0 : Int32) then some (0 : Int32) else (if (gI S a0 3) ≤ a1 then some (0 : Int32) else some (1 : Int32)))
set_option maxRecDepth 100000 in
theorem cX7_has_ok {l : Launch} {G : Gv} {L : List Nat} {S : MS} {a0 : Nat} {a1 : Int32} {q : Int32} (ha0 : a0 < shX.1 ∧ shX.2.1 a0 = 7) (hf : fX7_has a0 a1 S = some q) : Mt l yX7_has cX7_has 2 (some .boolean) (1) G shX L S [.ref (ad L a0), .int a1] (some (.int q)) S := by
  refine m_enter (lv := [(0, .ref (ad L a0)), (1, .int a1)]) (plainFor_of_name (by decide)) (Nat.le_of_ble_eq_true rfl) rfl ?_
  intro p e s m below meth c A ls C hW hl
  unfold fX7_has at hf
  refine lv_iload_n C.1 C.2.1 dX7_has_0 rfl (lv_at hl 1 rfl) ?_
  refine lv_if_lt (tgt := 16) C.1 C.2.1 dX7_has_1 rfl (fun c1 => ?_) (fun c1 => ?_)
  · have hf := (if_pos c1).symm.trans hf
    refine lv_iconst C.1 C.2.1 dX7_has_16 ic_0 ?_
    cases hf
    exact m_zret C hW rfl dX7_has_17
  · have hf := (if_neg c1).symm.trans hf
    refine lv_iload_n C.1 C.2.1 dX7_has_4 rfl (lv_at hl 1 rfl) ?_
    refine lv_aload_n C.1 C.2.1 dX7_has_5 rfl (lv_at hl 0 rfl) ?_
    refine m_geti C hW ha0 flX7_22 dX7_has_6 ?_
    refine lv_icmp_ge (tgt := 16) C.1 C.2.1 dX7_has_9 rfl (fun c2 => ?_) (fun c2 => ?_)
    · have hf := (if_pos c2).symm.trans hf
      refine lv_iconst C.1 C.2.1 dX7_has_16 ic_0 ?_
      cases hf
      exact m_zret C hW rfl dX7_has_17
    · have hf := (if_neg c2).symm.trans hf
      refine lv_iconst C.1 C.2.1 dX7_has_12 ic_1 ?_
      refine lv_goto (tgt := 17) C.1 C.2.1 dX7_has_13 rfl ?_
      cases hf
      exact m_zret C hW rfl dX7_has_17

def fX7_put (a0 : Nat) (a1 : Int32) (a2 : Int32) (S : MS) : Option MS := (if (gI S a0 1) ≤ (gI S a0 3) then some S else (if a1 < (0 : Int32) then some S else (if (gI S a0 2) ≤ a1 then some S else (if bnd (((gI S a0 3) * (gI S a0 2)) + a1) (lnX (gR S a0 0)) = true then some (pI S (gR S a0 0) ((((gI S a0 3) * (gI S a0 2)) + a1).toNatClampNeg) a2) else none))))
set_option maxRecDepth 100000 in
theorem cX7_put_ok {l : Launch} {G : Gv} {L : List Nat} {S : MS} {a0 : Nat} {a1 : Int32} {a2 : Int32} {q : MS} (ha0 : a0 < shX.1 ∧ shX.2.1 a0 = 7) (hf : fX7_put a0 a1 a2 S = some q) : Mt l yX7_put cX7_put 3 none (1) G shX L S [.ref (ad L a0), .int a1, .int a2] none q := by
  refine m_enter (lv := [(0, .ref (ad L a0)), (1, .int a1), (2, .int a2)]) (plainFor_of_name (by decide)) (Nat.le_of_ble_eq_true rfl) rfl ?_
  intro p e s m below meth c A ls C hW hl
  unfold fX7_put at hf
  refine lv_aload_n C.1 C.2.1 dX7_put_0 rfl (lv_at hl 0 rfl) ?_
  refine m_geti C hW ha0 flX7_22 dX7_put_1 ?_
  refine lv_aload_n C.1 C.2.1 dX7_put_4 rfl (lv_at hl 0 rfl) ?_
  refine m_geti C hW ha0 flX7_15 dX7_put_5 ?_
  refine lv_icmp_ge (tgt := 40) C.1 C.2.1 dX7_put_8 rfl (fun c1 => ?_) (fun c1 => ?_)
  · have hf := (if_pos c1).symm.trans hf
    cases hf
    exact m_vret C hW dX7_put_40
  · have hf := (if_neg c1).symm.trans hf
    refine lv_iload_n C.1 C.2.1 dX7_put_11 rfl (lv_at hl 1 rfl) ?_
    refine lv_if_lt (tgt := 40) C.1 C.2.1 dX7_put_12 rfl (fun c2 => ?_) (fun c2 => ?_)
    · have hf := (if_pos c2).symm.trans hf
      cases hf
      exact m_vret C hW dX7_put_40
    · have hf := (if_neg c2).symm.trans hf
      refine lv_iload_n C.1 C.2.1 dX7_put_15 rfl (lv_at hl 1 rfl) ?_
      refine lv_aload_n C.1 C.2.1 dX7_put_16 rfl (lv_at hl 0 rfl) ?_
      refine m_geti C hW ha0 flX7_19 dX7_put_17 ?_
      refine lv_icmp_ge (tgt := 40) C.1 C.2.1 dX7_put_20 rfl (fun c3 => ?_) (fun c3 => ?_)
      · have hf := (if_pos c3).symm.trans hf
        cases hf
        exact m_vret C hW dX7_put_40
      · have hf := (if_neg c3).symm.trans hf
        refine lv_aload_n C.1 C.2.1 dX7_put_23 rfl (lv_at hl 0 rfl) ?_
        refine m_getr C hW ha0 flX7_9 (by decide) dX7_put_24 (fun hk4 => ?_)
        refine lv_aload_n C.1 C.2.1 dX7_put_27 rfl (lv_at hl 0 rfl) ?_
        refine m_geti C hW ha0 flX7_22 dX7_put_28 ?_
        refine lv_aload_n C.1 C.2.1 dX7_put_31 rfl (lv_at hl 0 rfl) ?_
        refine m_geti C hW ha0 flX7_19 dX7_put_32 ?_
        refine lv_imul C.1 C.2.1 dX7_put_35 ?_
        refine lv_iload_n C.1 C.2.1 dX7_put_36 rfl (lv_at hl 1 rfl) ?_
        refine lv_iadd C.1 C.2.1 dX7_put_37 ?_
        refine lv_iload_n C.1 C.2.1 dX7_put_38 rfl (lv_at hl 2 rfl) ?_
        obtain ⟨hb5, hf⟩ := gd hf
        refine m_iast C hW hk4 hb5 dX7_put_39 (fun H locs hW => ?_)
        cases hf
        exact m_vret C hW dX7_put_40

def fX7_close (a0 : Nat) (S : MS) : Option MS := (if (gI S a0 1) ≤ (gI S a0 3) then some S else some (pI S a0 3 ((gI S a0 3) + (1 : Int32))))
set_option maxRecDepth 100000 in
theorem cX7_close_ok {l : Launch} {G : Gv} {L : List Nat} {S : MS} {a0 : Nat} {q : MS} (ha0 : a0 < shX.1 ∧ shX.2.1 a0 = 7) (hf : fX7_close a0 S = some q) : Mt l yX7_close cX7_close 1 none (1) G shX L S [.ref (ad L a0)] none q := by
  refine m_enter (lv := [(0, .ref (ad L a0))]) (plainFor_of_name (by decide)) (Nat.le_of_ble_eq_true rfl) rfl ?_
  intro p e s m below meth c A ls C hW hl
  unfold fX7_close at hf
  refine lv_aload_n C.1 C.2.1 dX7_close_0 rfl (lv_at hl 0 rfl) ?_
  refine m_geti C hW ha0 flX7_22 dX7_close_1 ?_
  refine lv_aload_n C.1 C.2.1 dX7_close_4 rfl (lv_at hl 0 rfl) ?_
  refine m_geti C hW ha0 flX7_15 dX7_close_5 ?_
  refine lv_icmp_ge (tgt := 21) C.1 C.2.1 dX7_close_8 rfl (fun c1 => ?_) (fun c1 => ?_)
  · have hf := (if_pos c1).symm.trans hf
    cases hf
    exact m_vret C hW dX7_close_21
  · have hf := (if_neg c1).symm.trans hf
    refine lv_aload_n C.1 C.2.1 dX7_close_11 rfl (lv_at hl 0 rfl) ?_
    refine lv_dup C.1 C.2.1 dX7_close_12 rfl ?_
    refine m_geti C hW ha0 flX7_22 dX7_close_13 ?_
    refine lv_iconst C.1 C.2.1 dX7_close_16 ic_1 ?_
    refine lv_iadd C.1 C.2.1 dX7_close_17 ?_
    refine m_puti C hW ha0 fpX7_22 dX7_close_18 (fun H locs hW => ?_)
    cases hf
    exact m_vret C hW dX7_close_21

def fX7_get_29  (x0 : Nat) (x1 : Int32) (x2 : Int32) (y0 : Int32) (S : MS) : Option Int32 := (if y0 = (0 : Int32) then some (-1 : Int32) else (if bnd ((x1 * (gI S x0 2)) + x2) (lnX (gR S x0 0)) = true then some (gI S (gR S x0 0) ((x1 * (gI S x0 2)) + x2).toNatClampNeg) else none))
def fX7_get_28  (x0 : Nat) (x1 : Int32) (x2 : Int32) (S : MS) : Option Int32 := fX7_get_29  x0 x1 x2 (0 : Int32) S
def fX7_get (a0 : Nat) (a1 : Int32) (a2 : Int32) (S : MS) : Option Int32 := (if a1 < (0 : Int32) then fX7_get_28  a0 a1 a2 S else (if (gI S a0 3) ≤ a1 then fX7_get_28  a0 a1 a2 S else (if a2 < (0 : Int32) then fX7_get_28  a0 a1 a2 S else (if (gI S a0 2) ≤ a2 then fX7_get_28  a0 a1 a2 S else fX7_get_29  a0 a1 a2 (1 : Int32) S))))
set_option maxRecDepth 100000 in
theorem kX7_get_29 {p : Program} {l : Launch} {e : Env} {s : State} {m : MethodId} {av : Array Value} {below : List Frame} {meth : Method} {c : Code} {A : Nat → Prop} {G : Gv} {L : List Nat} {S : MS} {q : Int32}  (C : mC p s m av meth c cX7_get RX7 4 (some .int)) : ∀ (x0 : Nat) (x1 : Int32) (x2 : Int32) (y0 : Int32) (H : Heap) (locs : List Loc) (ls : Array Slot), (x0 < shX.1 ∧ shX.2.1 x0 = 7) → mW G shX L S A s H locs → lv_has ls 4 [(0, .ref (ad L x0)), (1, .int x1), (2, .int x2)] → fX7_get_29  x0 x1 x2 y0 S = some q → W p l e (rmd (1)) s m av below meth c H locs 0 0 (MQ below (mQ G shX L S (some (.int q)) A) av s 0 0 A) (F0 m 29 ls [.int y0]) := by
  intro x0 x1 x2 y0 H locs ls hx0 hW hl hf
  unfold fX7_get_29 at hf
  refine lv_istore_n (lv' := [(3, .int y0), (0, .ref (ad L x0)), (1, .int x1), (2, .int x2)]) C.1 C.2.1 dX7_get_29 rfl hl (by decide) rfl (fun ls hl => ?_)
  refine lv_iload_n C.1 C.2.1 dX7_get_30 rfl (lv_at hl 0 rfl) ?_
  refine lv_if_eq (tgt := 50) C.1 C.2.1 dX7_get_31 rfl (fun c1 => ?_) (fun c1 => ?_)
  · have hf := (if_pos c1).symm.trans hf
    refine lv_iconst C.1 C.2.1 dX7_get_50 ic_m1 ?_
    cases hf
    exact m_iret C hW dX7_get_51
  · have hf := (if_neg c1).symm.trans hf
    refine lv_aload_n C.1 C.2.1 dX7_get_34 rfl (lv_at hl 1 rfl) ?_
    refine m_getr C hW hx0 flX7_9 (by decide) dX7_get_35 (fun hk2 => ?_)
    refine lv_iload_n C.1 C.2.1 dX7_get_38 rfl (lv_at hl 2 rfl) ?_
    refine lv_aload_n C.1 C.2.1 dX7_get_39 rfl (lv_at hl 1 rfl) ?_
    refine m_geti C hW hx0 flX7_19 dX7_get_40 ?_
    refine lv_imul C.1 C.2.1 dX7_get_43 ?_
    refine lv_iload_n C.1 C.2.1 dX7_get_44 rfl (lv_at hl 3 rfl) ?_
    refine lv_iadd C.1 C.2.1 dX7_get_45 ?_
    obtain ⟨hb3, hf⟩ := gd hf
    refine m_iald C hW hk2 hb3 dX7_get_46 ?_
    refine lv_goto (tgt := 51) C.1 C.2.1 dX7_get_47 rfl ?_
    cases hf
    exact m_iret C hW dX7_get_51

set_option maxRecDepth 100000 in
theorem kX7_get_28 {p : Program} {l : Launch} {e : Env} {s : State} {m : MethodId} {av : Array Value} {below : List Frame} {meth : Method} {c : Code} {A : Nat → Prop} {G : Gv} {L : List Nat} {S : MS} {q : Int32}  (C : mC p s m av meth c cX7_get RX7 4 (some .int)) : ∀ (x0 : Nat) (x1 : Int32) (x2 : Int32) (H : Heap) (locs : List Loc) (ls : Array Slot), (x0 < shX.1 ∧ shX.2.1 x0 = 7) → mW G shX L S A s H locs → lv_has ls 4 [(0, .ref (ad L x0)), (1, .int x1), (2, .int x2)] → fX7_get_28  x0 x1 x2 S = some q → W p l e (rmd (1)) s m av below meth c H locs 0 0 (MQ below (mQ G shX L S (some (.int q)) A) av s 0 0 A) (F0 m 28 ls []) := by
  intro x0 x1 x2 H locs ls hx0 hW hl hf
  unfold fX7_get_28 at hf
  refine lv_iconst C.1 C.2.1 dX7_get_28 ic_0 ?_
  exact kX7_get_29  C x0 x1 x2 (0 : Int32) _ _ _ hx0 hW (lv_sub hl [0, 1, 2] rfl) hf

set_option maxRecDepth 100000 in
theorem cX7_get_ok {l : Launch} {G : Gv} {L : List Nat} {S : MS} {a0 : Nat} {a1 : Int32} {a2 : Int32} {q : Int32} (ha0 : a0 < shX.1 ∧ shX.2.1 a0 = 7) (hf : fX7_get a0 a1 a2 S = some q) : Mt l yX7_get cX7_get 4 (some .int) (1) G shX L S [.ref (ad L a0), .int a1, .int a2] (some (.int q)) S := by
  refine m_enter (lv := [(0, .ref (ad L a0)), (1, .int a1), (2, .int a2)]) (plainFor_of_name (by decide)) (Nat.le_of_ble_eq_true rfl) rfl ?_
  intro p e s m below meth c A ls C hW hl
  unfold fX7_get at hf
  refine lv_iload_n C.1 C.2.1 dX7_get_0 rfl (lv_at hl 1 rfl) ?_
  refine lv_if_lt (tgt := 28) C.1 C.2.1 dX7_get_1 rfl (fun c4 => ?_) (fun c4 => ?_)
  · have hf := (if_pos c4).symm.trans hf
    exact kX7_get_28  C a0 a1 a2 _ _ _ ha0 hW (lv_sub hl [0, 1, 2] rfl) hf
  · have hf := (if_neg c4).symm.trans hf
    refine lv_iload_n C.1 C.2.1 dX7_get_4 rfl (lv_at hl 1 rfl) ?_
    refine lv_aload_n C.1 C.2.1 dX7_get_5 rfl (lv_at hl 0 rfl) ?_
    refine m_geti C hW ha0 flX7_22 dX7_get_6 ?_
    refine lv_icmp_ge (tgt := 28) C.1 C.2.1 dX7_get_9 rfl (fun c5 => ?_) (fun c5 => ?_)
    · have hf := (if_pos c5).symm.trans hf
      exact kX7_get_28  C a0 a1 a2 _ _ _ ha0 hW (lv_sub hl [0, 1, 2] rfl) hf
    · have hf := (if_neg c5).symm.trans hf
      refine lv_iload_n C.1 C.2.1 dX7_get_12 rfl (lv_at hl 2 rfl) ?_
      refine lv_if_lt (tgt := 28) C.1 C.2.1 dX7_get_13 rfl (fun c6 => ?_) (fun c6 => ?_)
      · have hf := (if_pos c6).symm.trans hf
        exact kX7_get_28  C a0 a1 a2 _ _ _ ha0 hW (lv_sub hl [0, 1, 2] rfl) hf
      · have hf := (if_neg c6).symm.trans hf
        refine lv_iload_n C.1 C.2.1 dX7_get_16 rfl (lv_at hl 2 rfl) ?_
        refine lv_aload_n C.1 C.2.1 dX7_get_17 rfl (lv_at hl 0 rfl) ?_
        refine m_geti C hW ha0 flX7_19 dX7_get_18 ?_
        refine lv_icmp_ge (tgt := 28) C.1 C.2.1 dX7_get_21 rfl (fun c7 => ?_) (fun c7 => ?_)
        · have hf := (if_pos c7).symm.trans hf
          exact kX7_get_28  C a0 a1 a2 _ _ _ ha0 hW (lv_sub hl [0, 1, 2] rfl) hf
        · have hf := (if_neg c7).symm.trans hf
          refine lv_iconst C.1 C.2.1 dX7_get_24 ic_1 ?_
          refine lv_goto (tgt := 29) C.1 C.2.1 dX7_get_25 rfl ?_
          exact kX7_get_29  C a0 a1 a2 (1 : Int32) _ _ _ ha0 hW (lv_sub hl [0, 1, 2] rfl) hf

def fX8_isCell (a0 : Nat) (a1 : Int32) (a2 : Int32) (S : MS) : Option Int32 := (if a1 < (0 : Int32) then some (0 : Int32) else (if (gI S a0 8) ≤ a1 then some (0 : Int32) else (if a2 < (0 : Int32) then some (0 : Int32) else (if (gI S a0 9) ≤ a2 then some (0 : Int32) else some (1 : Int32)))))
set_option maxRecDepth 100000 in
theorem cX8_isCell_ok {l : Launch} {G : Gv} {L : List Nat} {S : MS} {a0 : Nat} {a1 : Int32} {a2 : Int32} {q : Int32} (ha0 : a0 < shX.1 ∧ shX.2.1 a0 = 8) (hf : fX8_isCell a0 a1 a2 S = some q) : Mt l yX8_isCell cX8_isCell 3 (some .boolean) (1) G shX L S [.ref (ad L a0), .int a1, .int a2] (some (.int q)) S := by
  refine m_enter (lv := [(0, .ref (ad L a0)), (1, .int a1), (2, .int a2)]) (plainFor_of_name (by decide)) (Nat.le_of_ble_eq_true rfl) rfl ?_
  intro p e s m below meth c A ls C hW hl
  unfold fX8_isCell at hf
  refine lv_iload_n C.1 C.2.1 dX8_isCell_0 rfl (lv_at hl 1 rfl) ?_
  refine lv_if_lt (tgt := 28) C.1 C.2.1 dX8_isCell_1 rfl (fun c1 => ?_) (fun c1 => ?_)
  · have hf := (if_pos c1).symm.trans hf
    refine lv_iconst C.1 C.2.1 dX8_isCell_28 ic_0 ?_
    cases hf
    exact m_zret C hW rfl dX8_isCell_29
  · have hf := (if_neg c1).symm.trans hf
    refine lv_iload_n C.1 C.2.1 dX8_isCell_4 rfl (lv_at hl 1 rfl) ?_
    refine lv_aload_n C.1 C.2.1 dX8_isCell_5 rfl (lv_at hl 0 rfl) ?_
    refine m_geti C hW ha0 flX8_51 dX8_isCell_6 ?_
    refine lv_icmp_ge (tgt := 28) C.1 C.2.1 dX8_isCell_9 rfl (fun c2 => ?_) (fun c2 => ?_)
    · have hf := (if_pos c2).symm.trans hf
      refine lv_iconst C.1 C.2.1 dX8_isCell_28 ic_0 ?_
      cases hf
      exact m_zret C hW rfl dX8_isCell_29
    · have hf := (if_neg c2).symm.trans hf
      refine lv_iload_n C.1 C.2.1 dX8_isCell_12 rfl (lv_at hl 2 rfl) ?_
      refine lv_if_lt (tgt := 28) C.1 C.2.1 dX8_isCell_13 rfl (fun c3 => ?_) (fun c3 => ?_)
      · have hf := (if_pos c3).symm.trans hf
        refine lv_iconst C.1 C.2.1 dX8_isCell_28 ic_0 ?_
        cases hf
        exact m_zret C hW rfl dX8_isCell_29
      · have hf := (if_neg c3).symm.trans hf
        refine lv_iload_n C.1 C.2.1 dX8_isCell_16 rfl (lv_at hl 2 rfl) ?_
        refine lv_aload_n C.1 C.2.1 dX8_isCell_17 rfl (lv_at hl 0 rfl) ?_
        refine m_geti C hW ha0 flX8_55 dX8_isCell_18 ?_
        refine lv_icmp_ge (tgt := 28) C.1 C.2.1 dX8_isCell_21 rfl (fun c4 => ?_) (fun c4 => ?_)
        · have hf := (if_pos c4).symm.trans hf
          refine lv_iconst C.1 C.2.1 dX8_isCell_28 ic_0 ?_
          cases hf
          exact m_zret C hW rfl dX8_isCell_29
        · have hf := (if_neg c4).symm.trans hf
          refine lv_iconst C.1 C.2.1 dX8_isCell_24 ic_1 ?_
          refine lv_goto (tgt := 29) C.1 C.2.1 dX8_isCell_25 rfl ?_
          cases hf
          exact m_zret C hW rfl dX8_isCell_29

def fX9_become_103 (K74 : Nat → Nat → Int32 → MS → Option MS) (x0 : Nat) (x1 : Nat) (x2 : Int32) (S : MS) : Option MS := (if bnd x2 (lnX (gR S x1 2)) = true then (if bnd x2 (lnX (gR S x0 2)) = true then K74 x0 x1 (x2 + (1 : Int32)) (pI S (gR S x0 2) x2.toNatClampNeg (gI S (gR S x1 2) x2.toNatClampNeg)) else none) else none)
def fX9_become_74  : Nat → Nat → Nat → Int32 → MS → Option MS
  | 0, _, _, _, _ => none
  | n + 1, x0, x1, x2, S => (if (4 : Int32) ≤ x2 then some S else (if bnd x2 (lnX (gR S x1 0)) = true then (if bnd x2 (lnX (gR S x0 0)) = true then (if bnd x2 (lnX (gR (pI S (gR S x0 0) x2.toNatClampNeg (gI S (gR S x1 0) x2.toNatClampNeg)) x1 1)) = true then (if bnd x2 (lnX (gR (pI S (gR S x0 0) x2.toNatClampNeg (gI S (gR S x1 0) x2.toNatClampNeg)) x0 1)) = true then fX9_become_103 (fX9_become_74  n) x0 x1 x2 (pI (pI S (gR S x0 0) x2.toNatClampNeg (gI S (gR S x1 0) x2.toNatClampNeg)) (gR (pI S (gR S x0 0) x2.toNatClampNeg (gI S (gR S x1 0) x2.toNatClampNeg)) x0 1) x2.toNatClampNeg (gI (pI S (gR S x0 0) x2.toNatClampNeg (gI S (gR S x1 0) x2.toNatClampNeg)) (gR (pI S (gR S x0 0) x2.toNatClampNeg (gI S (gR S x1 0) x2.toNatClampNeg)) x1 1) x2.toNatClampNeg)) else none) else none) else none) else none))
def fX9_become_72  (x0 : Nat) (x1 : Nat) (S : MS) : Option MS := fX9_become_74  1000 x0 x1 (0 : Int32) S
def fX9_become_48  (x0 : Nat) (x1 : Nat) (S : MS) : Option MS := fX9_become_72  x0 x1 (pI (pI (pI S x0 9 (gI S x1 9)) x0 10 (gI (pI S x0 9 (gI S x1 9)) x1 10)) x0 11 (gI (pI (pI S x0 9 (gI S x1 9)) x0 10 (gI (pI S x0 9 (gI S x1 9)) x1 10)) x1 11))
def fX9_become_24  (x0 : Nat) (x1 : Nat) (S : MS) : Option MS := fX9_become_48  x0 x1 (pI (pI (pI S x0 6 (gI S x1 6)) x0 7 (gI (pI S x0 6 (gI S x1 6)) x1 7)) x0 8 (gI (pI (pI S x0 6 (gI S x1 6)) x0 7 (gI (pI S x0 6 (gI S x1 6)) x1 7)) x1 8))
def fX9_become (a0 : Nat) (a1 : Nat) (S : MS) : Option MS := fX9_become_24  a0 a1 (pI (pI (pI S a0 3 (gI S a1 3)) a0 4 (gI (pI S a0 3 (gI S a1 3)) a1 4)) a0 5 (gI (pI (pI S a0 3 (gI S a1 3)) a0 4 (gI (pI S a0 3 (gI S a1 3)) a1 4)) a1 5))
set_option maxRecDepth 100000 in
theorem kX9_become_103 {p : Program} {l : Launch} {e : Env} {s : State} {m : MethodId} {av : Array Value} {below : List Frame} {meth : Method} {c : Code} {A : Nat → Prop} {G : Gv} {L : List Nat} {q : MS} {K74 : Nat → Nat → Int32 → MS → Option MS} (hK74 : ∀ (x0 : Nat) (x1 : Nat) (x2 : Int32) (S : MS) (H : Heap) (locs : List Loc) (ls : Array Slot), (x0 < shX.1 ∧ shX.2.1 x0 = 9) → (x1 < shX.1 ∧ shX.2.1 x1 = 9) → mW G shX L S A s H locs → lv_has ls 3 [(0, .ref (ad L x0)), (1, .ref (ad L x1)), (2, .int x2)] → K74 x0 x1 x2 S = some q → W p l e (rmd (1)) s m av below meth c H locs 0 0 (MQ below (mQ G shX L q none A) av s 0 0 A) (F0 m 74 ls [])) (C : mC p s m av meth c cX9_become RX9 3 none) : ∀ (x0 : Nat) (x1 : Nat) (x2 : Int32) (S : MS) (H : Heap) (locs : List Loc) (ls : Array Slot), (x0 < shX.1 ∧ shX.2.1 x0 = 9) → (x1 < shX.1 ∧ shX.2.1 x1 = 9) → mW G shX L S A s H locs → lv_has ls 3 [(0, .ref (ad L x0)), (1, .ref (ad L x1)), (2, .int x2)] → fX9_become_103 K74 x0 x1 x2 S = some q → W p l e (rmd (1)) s m av below meth c H locs 0 0 (MQ below (mQ G shX L q none A) av s 0 0 A) (F0 m 103 ls []) := by
  intro x0 x1 x2 S H locs ls hx0 hx1 hW hl hf
  unfold fX9_become_103 at hf
  refine lv_aload_n C.1 C.2.1 dX9_become_103 rfl (lv_at hl 0 rfl) ?_
  refine m_getr C hW hx0 flX9_18 (by decide) dX9_become_104 (fun hk1 => ?_)
  refine lv_iload_n C.1 C.2.1 dX9_become_107 rfl (lv_at hl 2 rfl) ?_
  refine lv_aload_n C.1 C.2.1 dX9_become_108 rfl (lv_at hl 1 rfl) ?_
  refine m_getr C hW hx1 flX9_18 (by decide) dX9_become_109 (fun hk2 => ?_)
  refine lv_iload_n C.1 C.2.1 dX9_become_112 rfl (lv_at hl 2 rfl) ?_
  obtain ⟨hb3, hf⟩ := gd hf
  refine m_iald C hW hk2 hb3 dX9_become_113 ?_
  obtain ⟨hb4, hf⟩ := gd hf
  refine m_iast C hW hk1 hb4 dX9_become_114 (fun H locs hW => ?_)
  refine lv_iinc (v := x2 + (1 : Int32)) (lv' := [(2, .int (x2 + (1 : Int32))), (0, .ref (ad L x0)), (1, .ref (ad L x1))]) C.1 C.2.1 dX9_become_115 hl (k := 2) rfl (congrArg (fun z => x2 + z) ic_1) (by decide) rfl (fun ls hl => ?_)
  refine lv_goto (tgt := 74) C.1 C.2.1 dX9_become_118 rfl ?_
  exact hK74 x0 x1 (x2 + (1 : Int32)) _ _ _ _ hx0 hx1 hW (lv_sub hl [1, 2, 0] rfl) hf

set_option maxRecDepth 100000 in
theorem kX9_become_74 {p : Program} {l : Launch} {e : Env} {s : State} {m : MethodId} {av : Array Value} {below : List Frame} {meth : Method} {c : Code} {A : Nat → Prop} {G : Gv} {L : List Nat} {q : MS}  (C : mC p s m av meth c cX9_become RX9 3 none) : ∀ (n : Nat) (x0 : Nat) (x1 : Nat) (x2 : Int32) (S : MS) (H : Heap) (locs : List Loc) (ls : Array Slot), (x0 < shX.1 ∧ shX.2.1 x0 = 9) → (x1 < shX.1 ∧ shX.2.1 x1 = 9) → mW G shX L S A s H locs → lv_has ls 3 [(0, .ref (ad L x0)), (1, .ref (ad L x1)), (2, .int x2)] → fX9_become_74  n x0 x1 x2 S = some q → W p l e (rmd (1)) s m av below meth c H locs 0 0 (MQ below (mQ G shX L q none A) av s 0 0 A) (F0 m 74 ls []) := by
  intro n
  induction n with
  | zero =>
    intro x0 x1 x2 S H locs ls hx0 hx1 hW hl hf
    rw [fX9_become_74] at hf
    cases hf
  | succ n ih =>
    intro x0 x1 x2 S H locs ls hx0 hx1 hW hl hf
    rw [fX9_become_74] at hf
    refine lv_iload_n C.1 C.2.1 dX9_become_74 rfl (lv_at hl 2 rfl) ?_
    refine lv_iconst C.1 C.2.1 dX9_become_75 ic_4 ?_
    refine lv_icmp_ge (tgt := 121) C.1 C.2.1 dX9_become_76 rfl (fun c5 => ?_) (fun c5 => ?_)
    · have hf := (if_pos c5).symm.trans hf
      cases hf
      exact m_vret C hW dX9_become_121
    · have hf := (if_neg c5).symm.trans hf
      refine lv_aload_n C.1 C.2.1 dX9_become_79 rfl (lv_at hl 0 rfl) ?_
      refine m_getr C hW hx0 flX9_9 (by decide) dX9_become_80 (fun hk6 => ?_)
      refine lv_iload_n C.1 C.2.1 dX9_become_83 rfl (lv_at hl 2 rfl) ?_
      refine lv_aload_n C.1 C.2.1 dX9_become_84 rfl (lv_at hl 1 rfl) ?_
      refine m_getr C hW hx1 flX9_9 (by decide) dX9_become_85 (fun hk7 => ?_)
      refine lv_iload_n C.1 C.2.1 dX9_become_88 rfl (lv_at hl 2 rfl) ?_
      obtain ⟨hb8, hf⟩ := gd hf
      refine m_iald C hW hk7 hb8 dX9_become_89 ?_
      obtain ⟨hb9, hf⟩ := gd hf
      refine m_iast C hW hk6 hb9 dX9_become_90 (fun H locs hW => ?_)
      refine lv_aload_n C.1 C.2.1 dX9_become_91 rfl (lv_at hl 0 rfl) ?_
      refine m_getr C hW hx0 flX9_15 (by decide) dX9_become_92 (fun hk10 => ?_)
      refine lv_iload_n C.1 C.2.1 dX9_become_95 rfl (lv_at hl 2 rfl) ?_
      refine lv_aload_n C.1 C.2.1 dX9_become_96 rfl (lv_at hl 1 rfl) ?_
      refine m_getr C hW hx1 flX9_15 (by decide) dX9_become_97 (fun hk11 => ?_)
      refine lv_iload_n C.1 C.2.1 dX9_become_100 rfl (lv_at hl 2 rfl) ?_
      obtain ⟨hb12, hf⟩ := gd hf
      refine m_iald C hW hk11 hb12 dX9_become_101 ?_
      obtain ⟨hb13, hf⟩ := gd hf
      refine m_iast C hW hk10 hb13 dX9_become_102 (fun H locs hW => ?_)
      exact kX9_become_103 ih C x0 x1 x2 _ _ _ _ hx0 hx1 hW (lv_sub hl [0, 1, 2] rfl) hf

set_option maxRecDepth 100000 in
theorem kX9_become_72 {p : Program} {l : Launch} {e : Env} {s : State} {m : MethodId} {av : Array Value} {below : List Frame} {meth : Method} {c : Code} {A : Nat → Prop} {G : Gv} {L : List Nat} {q : MS}  (C : mC p s m av meth c cX9_become RX9 3 none) : ∀ (x0 : Nat) (x1 : Nat) (S : MS) (H : Heap) (locs : List Loc) (ls : Array Slot), (x0 < shX.1 ∧ shX.2.1 x0 = 9) → (x1 < shX.1 ∧ shX.2.1 x1 = 9) → mW G shX L S A s H locs → lv_has ls 3 [(0, .ref (ad L x0)), (1, .ref (ad L x1))] → fX9_become_72  x0 x1 S = some q → W p l e (rmd (1)) s m av below meth c H locs 0 0 (MQ below (mQ G shX L q none A) av s 0 0 A) (F0 m 72 ls []) := by
  intro x0 x1 S H locs ls hx0 hx1 hW hl hf
  unfold fX9_become_72 at hf
  refine lv_iconst C.1 C.2.1 dX9_become_72 ic_0 ?_
  refine lv_istore_n (lv' := [(2, .int (0 : Int32)), (0, .ref (ad L x0)), (1, .ref (ad L x1))]) C.1 C.2.1 dX9_become_73 rfl hl (by decide) rfl (fun ls hl => ?_)
  exact kX9_become_74  C 1000 x0 x1 (0 : Int32) _ _ _ _ hx0 hx1 hW (lv_sub hl [1, 2, 0] rfl) hf

set_option maxRecDepth 100000 in
theorem kX9_become_48 {p : Program} {l : Launch} {e : Env} {s : State} {m : MethodId} {av : Array Value} {below : List Frame} {meth : Method} {c : Code} {A : Nat → Prop} {G : Gv} {L : List Nat} {q : MS}  (C : mC p s m av meth c cX9_become RX9 3 none) : ∀ (x0 : Nat) (x1 : Nat) (S : MS) (H : Heap) (locs : List Loc) (ls : Array Slot), (x0 < shX.1 ∧ shX.2.1 x0 = 9) → (x1 < shX.1 ∧ shX.2.1 x1 = 9) → mW G shX L S A s H locs → lv_has ls 3 [(0, .ref (ad L x0)), (1, .ref (ad L x1))] → fX9_become_48  x0 x1 S = some q → W p l e (rmd (1)) s m av below meth c H locs 0 0 (MQ below (mQ G shX L q none A) av s 0 0 A) (F0 m 48 ls []) := by
  intro x0 x1 S H locs ls hx0 hx1 hW hl hf
  unfold fX9_become_48 at hf
  refine lv_aload_n C.1 C.2.1 dX9_become_48 rfl (lv_at hl 0 rfl) ?_
  refine lv_aload_n C.1 C.2.1 dX9_become_49 rfl (lv_at hl 1 rfl) ?_
  refine m_geti C hW hx1 flX9_52 dX9_become_50 ?_
  refine m_puti C hW hx0 fpX9_52 dX9_become_53 (fun H locs hW => ?_)
  refine lv_aload_n C.1 C.2.1 dX9_become_56 rfl (lv_at hl 0 rfl) ?_
  refine lv_aload_n C.1 C.2.1 dX9_become_57 rfl (lv_at hl 1 rfl) ?_
  refine m_geti C hW hx1 flX9_55 dX9_become_58 ?_
  refine m_puti C hW hx0 fpX9_55 dX9_become_61 (fun H locs hW => ?_)
  refine lv_aload_n C.1 C.2.1 dX9_become_64 rfl (lv_at hl 0 rfl) ?_
  refine lv_aload_n C.1 C.2.1 dX9_become_65 rfl (lv_at hl 1 rfl) ?_
  refine m_geti C hW hx1 flX9_61 dX9_become_66 ?_
  refine m_puti C hW hx0 fpX9_61 dX9_become_69 (fun H locs hW => ?_)
  exact kX9_become_72  C x0 x1 _ _ _ _ hx0 hx1 hW (lv_sub hl [0, 1] rfl) hf

set_option maxRecDepth 100000 in
theorem kX9_become_24 {p : Program} {l : Launch} {e : Env} {s : State} {m : MethodId} {av : Array Value} {below : List Frame} {meth : Method} {c : Code} {A : Nat → Prop} {G : Gv} {L : List Nat} {q : MS}  (C : mC p s m av meth c cX9_become RX9 3 none) : ∀ (x0 : Nat) (x1 : Nat) (S : MS) (H : Heap) (locs : List Loc) (ls : Array Slot), (x0 < shX.1 ∧ shX.2.1 x0 = 9) → (x1 < shX.1 ∧ shX.2.1 x1 = 9) → mW G shX L S A s H locs → lv_has ls 3 [(0, .ref (ad L x0)), (1, .ref (ad L x1))] → fX9_become_24  x0 x1 S = some q → W p l e (rmd (1)) s m av below meth c H locs 0 0 (MQ below (mQ G shX L q none A) av s 0 0 A) (F0 m 24 ls []) := by
  intro x0 x1 S H locs ls hx0 hx1 hW hl hf
  unfold fX9_become_24 at hf
  refine lv_aload_n C.1 C.2.1 dX9_become_24 rfl (lv_at hl 0 rfl) ?_
  refine lv_aload_n C.1 C.2.1 dX9_become_25 rfl (lv_at hl 1 rfl) ?_
  refine m_geti C hW hx1 flX9_31 dX9_become_26 ?_
  refine m_puti C hW hx0 fpX9_31 dX9_become_29 (fun H locs hW => ?_)
  refine lv_aload_n C.1 C.2.1 dX9_become_32 rfl (lv_at hl 0 rfl) ?_
  refine lv_aload_n C.1 C.2.1 dX9_become_33 rfl (lv_at hl 1 rfl) ?_
  refine m_geti C hW hx1 flX9_46 dX9_become_34 ?_
  refine m_puti C hW hx0 fpX9_46 dX9_become_37 (fun H locs hW => ?_)
  refine lv_aload_n C.1 C.2.1 dX9_become_40 rfl (lv_at hl 0 rfl) ?_
  refine lv_aload_n C.1 C.2.1 dX9_become_41 rfl (lv_at hl 1 rfl) ?_
  refine m_geti C hW hx1 flX9_49 dX9_become_42 ?_
  refine m_puti C hW hx0 fpX9_49 dX9_become_45 (fun H locs hW => ?_)
  exact kX9_become_48  C x0 x1 _ _ _ _ hx0 hx1 hW (lv_sub hl [0, 1] rfl) hf

set_option maxRecDepth 100000 in
theorem cX9_become_ok {l : Launch} {G : Gv} {L : List Nat} {S : MS} {a0 : Nat} {a1 : Nat} {q : MS} (ha0 : a0 < shX.1 ∧ shX.2.1 a0 = 9) (ha1 : a1 < shX.1 ∧ shX.2.1 a1 = 9) (hf : fX9_become a0 a1 S = some q) : Mt l yX9_become cX9_become 3 none (1) G shX L S [.ref (ad L a0), .ref (ad L a1)] none q := by
  refine m_enter (lv := [(0, .ref (ad L a0)), (1, .ref (ad L a1))]) (plainFor_of_name (by decide)) (Nat.le_of_ble_eq_true rfl) rfl ?_
  intro p e s m below meth c A ls C hW hl
  unfold fX9_become at hf
  refine lv_aload_n C.1 C.2.1 dX9_become_0 rfl (lv_at hl 0 rfl) ?_
  refine lv_aload_n C.1 C.2.1 dX9_become_1 rfl (lv_at hl 1 rfl) ?_
  refine m_geti C hW ha1 flX9_21 dX9_become_2 ?_
  refine m_puti C hW ha0 fpX9_21 dX9_become_5 (fun H locs hW => ?_)
  refine lv_aload_n C.1 C.2.1 dX9_become_8 rfl (lv_at hl 0 rfl) ?_
  refine lv_aload_n C.1 C.2.1 dX9_become_9 rfl (lv_at hl 1 rfl) ?_
  refine m_geti C hW ha1 flX9_25 dX9_become_10 ?_
  refine m_puti C hW ha0 fpX9_25 dX9_become_13 (fun H locs hW => ?_)
  refine lv_aload_n C.1 C.2.1 dX9_become_16 rfl (lv_at hl 0 rfl) ?_
  refine lv_aload_n C.1 C.2.1 dX9_become_17 rfl (lv_at hl 1 rfl) ?_
  refine m_geti C hW ha1 flX9_28 dX9_become_18 ?_
  refine m_puti C hW ha0 fpX9_28 dX9_become_21 (fun H locs hW => ?_)
  exact kX9_become_24  C a0 a1 _ _ _ _ ha0 ha1 hW (lv_sub hl [0, 1] rfl) hf

def fX9_onceMore (a0 : Int32) (S : MS) : Option Int32 := some (if (a0 + (1 : Int32)) < (999 : Int32) then (a0 + (1 : Int32)) else (999 : Int32))
set_option maxRecDepth 100000 in
theorem cX9_onceMore_ok {l : Launch} {G : Gv} {L : List Nat} {S : MS} {a0 : Int32} {q : Int32}  (hf : fX9_onceMore a0 S = some q) : Mt l yX9_onceMore cX9_onceMore 1 (some .int) (1) G shX L S [.int a0] (some (.int q)) S := by
  refine m_enter (lv := [(0, .int a0)]) (plainFor_of_name (by decide)) (Nat.le_of_ble_eq_true rfl) rfl ?_
  intro p e s m below meth c A ls C hW hl
  unfold fX9_onceMore at hf
  refine lv_sipush C.1 C.2.1 dX9_onceMore_0 sp_999 ?_
  refine lv_iload_n C.1 C.2.1 dX9_onceMore_3 rfl (lv_at hl 0 rfl) ?_
  refine lv_iconst C.1 C.2.1 dX9_onceMore_4 ic_1 ?_
  refine lv_iadd C.1 C.2.1 dX9_onceMore_5 ?_
  refine va_mmin C.1 C.2.1 (C.2.2.1.trans hl.1.symm) C.2.2.2.1 (C.2.2.2.2.1 _ kw_1002) (C.2.2.2.2.1 _ kw_696) (C.2.2.2.2.1 _ kw_135) (C.2.2.2.2.1 _ kw_697) (Nat.le_of_ble_eq_true rfl) (Nat.le_of_ble_eq_true rfl) (Nat.le_refl 0) (Nat.le_refl 0) dX9_onceMore_6 ?_
  cases hf
  exact m_iret C hW dX9_onceMore_9

def fX9_tireBy (a0 : Nat) (a1 : Int32) (S : MS) : Option MS := some (pI S a0 6 (if ((gI S a0 6) + a1) < (99 : Int32) then ((gI S a0 6) + a1) else (99 : Int32)))
set_option maxRecDepth 100000 in
theorem cX9_tireBy_ok {l : Launch} {G : Gv} {L : List Nat} {S : MS} {a0 : Nat} {a1 : Int32} {q : MS} (ha0 : a0 < shX.1 ∧ shX.2.1 a0 = 9) (hf : fX9_tireBy a0 a1 S = some q) : Mt l yX9_tireBy cX9_tireBy 2 none (1) G shX L S [.ref (ad L a0), .int a1] none q := by
  refine m_enter (lv := [(0, .ref (ad L a0)), (1, .int a1)]) (plainFor_of_name (by decide)) (Nat.le_of_ble_eq_true rfl) rfl ?_
  intro p e s m below meth c A ls C hW hl
  unfold fX9_tireBy at hf
  refine lv_aload_n C.1 C.2.1 dX9_tireBy_0 rfl (lv_at hl 0 rfl) ?_
  refine lv_bipush C.1 C.2.1 dX9_tireBy_1 bp_99 ?_
  refine lv_aload_n C.1 C.2.1 dX9_tireBy_3 rfl (lv_at hl 0 rfl) ?_
  refine m_geti C hW ha0 flX9_31 dX9_tireBy_4 ?_
  refine lv_iload_n C.1 C.2.1 dX9_tireBy_7 rfl (lv_at hl 1 rfl) ?_
  refine lv_iadd C.1 C.2.1 dX9_tireBy_8 ?_
  refine va_mmin C.1 C.2.1 (C.2.2.1.trans hl.1.symm) C.2.2.2.1 (C.2.2.2.2.1 _ kw_1002) (C.2.2.2.2.1 _ kw_696) (C.2.2.2.2.1 _ kw_135) (C.2.2.2.2.1 _ kw_697) (Nat.le_of_ble_eq_true rfl) (Nat.le_of_ble_eq_true rfl) (Nat.le_refl 0) (Nat.le_refl 0) dX9_tireBy_9 ?_
  refine m_puti C hW ha0 fpX9_31 dX9_tireBy_12 (fun H locs hW => ?_)
  cases hf
  exact m_vret C hW dX9_tireBy_15

def fX9_please (a0 : Nat) (a1 : Int32) (a2 : Int32) (S : MS) : Option MS := (if bnd a1 (lnX (gR S a0 2)) = true then (if bnd a1 (lnX (gR S a0 2)) = true then some (pI S (gR S a0 2) a1.toNatClampNeg (if ((gI S (gR S a0 2) a1.toNatClampNeg) + a2) < (999 : Int32) then ((gI S (gR S a0 2) a1.toNatClampNeg) + a2) else (999 : Int32))) else none) else none)
set_option maxRecDepth 100000 in
theorem cX9_please_ok {l : Launch} {G : Gv} {L : List Nat} {S : MS} {a0 : Nat} {a1 : Int32} {a2 : Int32} {q : MS} (ha0 : a0 < shX.1 ∧ shX.2.1 a0 = 9) (hf : fX9_please a0 a1 a2 S = some q) : Mt l yX9_please cX9_please 3 none (1) G shX L S [.ref (ad L a0), .int a1, .int a2] none q := by
  refine m_enter (lv := [(0, .ref (ad L a0)), (1, .int a1), (2, .int a2)]) (plainFor_of_name (by decide)) (Nat.le_of_ble_eq_true rfl) rfl ?_
  intro p e s m below meth c A ls C hW hl
  unfold fX9_please at hf
  refine lv_aload_n C.1 C.2.1 dX9_please_0 rfl (lv_at hl 0 rfl) ?_
  refine m_getr C hW ha0 flX9_18 (by decide) dX9_please_1 (fun hk1 => ?_)
  refine lv_iload_n C.1 C.2.1 dX9_please_4 rfl (lv_at hl 1 rfl) ?_
  refine lv_sipush C.1 C.2.1 dX9_please_5 sp_999 ?_
  refine lv_aload_n C.1 C.2.1 dX9_please_8 rfl (lv_at hl 0 rfl) ?_
  refine m_getr C hW ha0 flX9_18 (by decide) dX9_please_9 (fun hk2 => ?_)
  refine lv_iload_n C.1 C.2.1 dX9_please_12 rfl (lv_at hl 1 rfl) ?_
  obtain ⟨hb3, hf⟩ := gd hf
  refine m_iald C hW hk2 hb3 dX9_please_13 ?_
  refine lv_iload_n C.1 C.2.1 dX9_please_14 rfl (lv_at hl 2 rfl) ?_
  refine lv_iadd C.1 C.2.1 dX9_please_15 ?_
  refine va_mmin C.1 C.2.1 (C.2.2.1.trans hl.1.symm) C.2.2.2.1 (C.2.2.2.2.1 _ kw_1002) (C.2.2.2.2.1 _ kw_696) (C.2.2.2.2.1 _ kw_135) (C.2.2.2.2.1 _ kw_697) (Nat.le_of_ble_eq_true rfl) (Nat.le_of_ble_eq_true rfl) (Nat.le_refl 0) (Nat.le_refl 0) dX9_please_16 ?_
  obtain ⟨hb4, hf⟩ := gd hf
  refine m_iast C hW hk1 hb4 dX9_please_19 (fun H locs hW => ?_)
  cases hf
  exact m_vret C hW dX9_please_20

def fX9_fondInAll_4  : Nat → Nat → Int32 → Int32 → MS → Option Int32
  | 0, _, _, _, _ => none
  | n + 1, x0, x1, x2, S => (if (4 : Int32) ≤ x2 then some x1 else (if bnd x2 (lnX (gR S x0 2)) = true then (fX9_fondInAll_4  n) x0 (x1 + (gI S (gR S x0 2) x2.toNatClampNeg)) (x2 + (1 : Int32)) S else none))
def fX9_fondInAll (a0 : Nat) (S : MS) : Option Int32 := fX9_fondInAll_4  1000 a0 (0 : Int32) (0 : Int32) S
set_option maxRecDepth 100000 in
theorem kX9_fondInAll_4 {p : Program} {l : Launch} {e : Env} {s : State} {m : MethodId} {av : Array Value} {below : List Frame} {meth : Method} {c : Code} {A : Nat → Prop} {G : Gv} {L : List Nat} {S : MS} {q : Int32}  (C : mC p s m av meth c cX9_fondInAll RX9 3 (some .int)) : ∀ (n : Nat) (x0 : Nat) (x1 : Int32) (x2 : Int32) (H : Heap) (locs : List Loc) (ls : Array Slot), (x0 < shX.1 ∧ shX.2.1 x0 = 9) → mW G shX L S A s H locs → lv_has ls 3 [(0, .ref (ad L x0)), (1, .int x1), (2, .int x2)] → fX9_fondInAll_4  n x0 x1 x2 S = some q → W p l e (rmd (1)) s m av below meth c H locs 0 0 (MQ below (mQ G shX L S (some (.int q)) A) av s 0 0 A) (F0 m 4 ls []) := by
  intro n
  induction n with
  | zero =>
    intro x0 x1 x2 H locs ls hx0 hW hl hf
    rw [fX9_fondInAll_4] at hf
    cases hf
  | succ n ih =>
    intro x0 x1 x2 H locs ls hx0 hW hl hf
    rw [fX9_fondInAll_4] at hf
    refine lv_iload_n C.1 C.2.1 dX9_fondInAll_4 rfl (lv_at hl 2 rfl) ?_
    refine lv_iconst C.1 C.2.1 dX9_fondInAll_5 ic_4 ?_
    refine lv_icmp_ge (tgt := 24) C.1 C.2.1 dX9_fondInAll_6 rfl (fun c1 => ?_) (fun c1 => ?_)
    · have hf := (if_pos c1).symm.trans hf
      refine lv_iload_n C.1 C.2.1 dX9_fondInAll_24 rfl (lv_at hl 1 rfl) ?_
      cases hf
      exact m_iret C hW dX9_fondInAll_25
    · have hf := (if_neg c1).symm.trans hf
      refine lv_iload_n C.1 C.2.1 dX9_fondInAll_9 rfl (lv_at hl 1 rfl) ?_
      refine lv_aload_n C.1 C.2.1 dX9_fondInAll_10 rfl (lv_at hl 0 rfl) ?_
      refine m_getr C hW hx0 flX9_18 (by decide) dX9_fondInAll_11 (fun hk2 => ?_)
      refine lv_iload_n C.1 C.2.1 dX9_fondInAll_14 rfl (lv_at hl 2 rfl) ?_
      obtain ⟨hb3, hf⟩ := gd hf
      refine m_iald C hW hk2 hb3 dX9_fondInAll_15 ?_
      refine lv_iadd C.1 C.2.1 dX9_fondInAll_16 ?_
      refine lv_istore_n (lv' := [(1, .int (x1 + (gI S (gR S x0 2) x2.toNatClampNeg))), (0, .ref (ad L x0)), (2, .int x2)]) C.1 C.2.1 dX9_fondInAll_17 rfl hl (by decide) rfl (fun ls hl => ?_)
      refine lv_iinc (v := x2 + (1 : Int32)) (lv' := [(2, .int (x2 + (1 : Int32))), (1, .int (x1 + (gI S (gR S x0 2) x2.toNatClampNeg))), (0, .ref (ad L x0))]) C.1 C.2.1 dX9_fondInAll_18 hl (k := 2) rfl (congrArg (fun z => x2 + z) ic_1) (by decide) rfl (fun ls hl => ?_)
      refine lv_goto (tgt := 4) C.1 C.2.1 dX9_fondInAll_21 rfl ?_
      exact ih x0 (x1 + (gI S (gR S x0 2) x2.toNatClampNeg)) (x2 + (1 : Int32)) _ _ _ hx0 hW (lv_sub hl [2, 1, 0] rfl) hf

set_option maxRecDepth 100000 in
theorem cX9_fondInAll_ok {l : Launch} {G : Gv} {L : List Nat} {S : MS} {a0 : Nat} {q : Int32} (ha0 : a0 < shX.1 ∧ shX.2.1 a0 = 9) (hf : fX9_fondInAll a0 S = some q) : Mt l yX9_fondInAll cX9_fondInAll 3 (some .int) (1) G shX L S [.ref (ad L a0)] (some (.int q)) S := by
  refine m_enter (lv := [(0, .ref (ad L a0))]) (plainFor_of_name (by decide)) (Nat.le_of_ble_eq_true rfl) rfl ?_
  intro p e s m below meth c A ls C hW hl
  unfold fX9_fondInAll at hf
  refine lv_iconst C.1 C.2.1 dX9_fondInAll_0 ic_0 ?_
  refine lv_istore_n (lv' := [(1, .int (0 : Int32)), (0, .ref (ad L a0))]) C.1 C.2.1 dX9_fondInAll_1 rfl hl (by decide) rfl (fun ls hl => ?_)
  refine lv_iconst C.1 C.2.1 dX9_fondInAll_2 ic_0 ?_
  refine lv_istore_n (lv' := [(2, .int (0 : Int32)), (1, .int (0 : Int32)), (0, .ref (ad L a0))]) C.1 C.2.1 dX9_fondInAll_3 rfl hl (by decide) rfl (fun ls hl => ?_)
  exact kX9_fondInAll_4  C 1000 a0 (0 : Int32) (0 : Int32) _ _ _ ha0 hW (lv_sub hl [2, 1, 0] rfl) hf

def fX9_isSheAt (a0 : Nat) (a1 : Int32) (a2 : Int32) (S : MS) : Option Int32 := (if gI S a0 4 = a1 then (if gI S a0 5 = a2 then some (1 : Int32) else some (0 : Int32)) else some (0 : Int32))
set_option maxRecDepth 100000 in
theorem cX9_isSheAt_ok {l : Launch} {G : Gv} {L : List Nat} {S : MS} {a0 : Nat} {a1 : Int32} {a2 : Int32} {q : Int32} (ha0 : a0 < shX.1 ∧ shX.2.1 a0 = 9) (hf : fX9_isSheAt a0 a1 a2 S = some q) : Mt l yX9_isSheAt cX9_isSheAt 3 (some .boolean) (1) G shX L S [.ref (ad L a0), .int a1, .int a2] (some (.int q)) S := by
  refine m_enter (lv := [(0, .ref (ad L a0)), (1, .int a1), (2, .int a2)]) (plainFor_of_name (by decide)) (Nat.le_of_ble_eq_true rfl) rfl ?_
  intro p e s m below meth c A ls C hW hl
  unfold fX9_isSheAt at hf
  refine lv_aload_n C.1 C.2.1 dX9_isSheAt_0 rfl (lv_at hl 0 rfl) ?_
  refine m_geti C hW ha0 flX9_25 dX9_isSheAt_1 ?_
  refine lv_iload_n C.1 C.2.1 dX9_isSheAt_4 rfl (lv_at hl 1 rfl) ?_
  refine lv_icmp_ne (tgt := 20) C.1 C.2.1 dX9_isSheAt_5 rfl (fun c1 => ?_) (fun c1 => ?_)
  · have hf := (if_neg c1).symm.trans hf
    refine lv_iconst C.1 C.2.1 dX9_isSheAt_20 ic_0 ?_
    cases hf
    exact m_zret C hW rfl dX9_isSheAt_21
  · have hf := (if_pos c1).symm.trans hf
    refine lv_aload_n C.1 C.2.1 dX9_isSheAt_8 rfl (lv_at hl 0 rfl) ?_
    refine m_geti C hW ha0 flX9_28 dX9_isSheAt_9 ?_
    refine lv_iload_n C.1 C.2.1 dX9_isSheAt_12 rfl (lv_at hl 2 rfl) ?_
    refine lv_icmp_ne (tgt := 20) C.1 C.2.1 dX9_isSheAt_13 rfl (fun c2 => ?_) (fun c2 => ?_)
    · have hf := (if_neg c2).symm.trans hf
      refine lv_iconst C.1 C.2.1 dX9_isSheAt_20 ic_0 ?_
      cases hf
      exact m_zret C hW rfl dX9_isSheAt_21
    · have hf := (if_pos c2).symm.trans hf
      refine lv_iconst C.1 C.2.1 dX9_isSheAt_16 ic_1 ?_
      refine lv_goto (tgt := 21) C.1 C.2.1 dX9_isSheAt_17 rfl ?_
      cases hf
      exact m_zret C hW rfl dX9_isSheAt_21

def fX9_isItApartAt (a0 : Nat) (a1 : Int32) (a2 : Int32) (S : MS) : Option Int32 := (if gI S a0 14 = (0 : Int32) then (if gI S a0 12 = a1 then (if gI S a0 13 = a2 then some (1 : Int32) else some (0 : Int32)) else some (0 : Int32)) else some (0 : Int32))
set_option maxRecDepth 100000 in
theorem cX9_isItApartAt_ok {l : Launch} {G : Gv} {L : List Nat} {S : MS} {a0 : Nat} {a1 : Int32} {a2 : Int32} {q : Int32} (ha0 : a0 < shX.1 ∧ shX.2.1 a0 = 9) (hf : fX9_isItApartAt a0 a1 a2 S = some q) : Mt l yX9_isItApartAt cX9_isItApartAt 3 (some .boolean) (1) G shX L S [.ref (ad L a0), .int a1, .int a2] (some (.int q)) S := by
  refine m_enter (lv := [(0, .ref (ad L a0)), (1, .int a1), (2, .int a2)]) (plainFor_of_name (by decide)) (Nat.le_of_ble_eq_true rfl) rfl ?_
  intro p e s m below meth c A ls C hW hl
  unfold fX9_isItApartAt at hf
  refine lv_aload_n C.1 C.2.1 dX9_isItApartAt_0 rfl (lv_at hl 0 rfl) ?_
  refine m_geti C hW ha0 flX9_70 dX9_isItApartAt_1 ?_
  refine lv_if_ne (tgt := 27) C.1 C.2.1 dX9_isItApartAt_4 rfl (fun c1 => ?_) (fun c1 => ?_)
  · have hf := (if_neg c1).symm.trans hf
    refine lv_iconst C.1 C.2.1 dX9_isItApartAt_27 ic_0 ?_
    cases hf
    exact m_zret C hW rfl dX9_isItApartAt_28
  · have hf := (if_pos c1).symm.trans hf
    refine lv_aload_n C.1 C.2.1 dX9_isItApartAt_7 rfl (lv_at hl 0 rfl) ?_
    refine m_geti C hW ha0 flX9_74 dX9_isItApartAt_8 ?_
    refine lv_iload_n C.1 C.2.1 dX9_isItApartAt_11 rfl (lv_at hl 1 rfl) ?_
    refine lv_icmp_ne (tgt := 27) C.1 C.2.1 dX9_isItApartAt_12 rfl (fun c2 => ?_) (fun c2 => ?_)
    · have hf := (if_neg c2).symm.trans hf
      refine lv_iconst C.1 C.2.1 dX9_isItApartAt_27 ic_0 ?_
      cases hf
      exact m_zret C hW rfl dX9_isItApartAt_28
    · have hf := (if_pos c2).symm.trans hf
      refine lv_aload_n C.1 C.2.1 dX9_isItApartAt_15 rfl (lv_at hl 0 rfl) ?_
      refine m_geti C hW ha0 flX9_77 dX9_isItApartAt_16 ?_
      refine lv_iload_n C.1 C.2.1 dX9_isItApartAt_19 rfl (lv_at hl 2 rfl) ?_
      refine lv_icmp_ne (tgt := 27) C.1 C.2.1 dX9_isItApartAt_20 rfl (fun c3 => ?_) (fun c3 => ?_)
      · have hf := (if_neg c3).symm.trans hf
        refine lv_iconst C.1 C.2.1 dX9_isItApartAt_27 ic_0 ?_
        cases hf
        exact m_zret C hW rfl dX9_isItApartAt_28
      · have hf := (if_pos c3).symm.trans hf
        refine lv_iconst C.1 C.2.1 dX9_isItApartAt_23 ic_1 ?_
        refine lv_goto (tgt := 28) C.1 C.2.1 dX9_isItApartAt_24 rfl ?_
        cases hf
        exact m_zret C hW rfl dX9_isItApartAt_28

def fX10_downBy (a0 : Int32) (S : MS) : Option Int32 := (if a0 = (0 : Int32) then some (-1 : Int32) else (if a0 = (2 : Int32) then some (1 : Int32) else some (0 : Int32)))
set_option maxRecDepth 100000 in
theorem cX10_downBy_ok {l : Launch} {G : Gv} {L : List Nat} {S : MS} {a0 : Int32} {q : Int32}  (hf : fX10_downBy a0 S = some q) : Mt l yX10_downBy cX10_downBy 1 (some .int) (1) G shX L S [.int a0] (some (.int q)) S := by
  refine m_enter (lv := [(0, .int a0)]) (plainFor_of_name (by decide)) (Nat.le_of_ble_eq_true rfl) rfl ?_
  intro p e s m below meth c A ls C hW hl
  unfold fX10_downBy at hf
  refine lv_iload_n C.1 C.2.1 dX10_downBy_0 rfl (lv_at hl 0 rfl) ?_
  refine lv_if_ne (tgt := 8) C.1 C.2.1 dX10_downBy_1 rfl (fun c1 => ?_) (fun c1 => ?_)
  · have hf := (if_neg c1).symm.trans hf
    refine lv_iload_n C.1 C.2.1 dX10_downBy_8 rfl (lv_at hl 0 rfl) ?_
    refine lv_iconst C.1 C.2.1 dX10_downBy_9 ic_2 ?_
    refine lv_icmp_ne (tgt := 17) C.1 C.2.1 dX10_downBy_10 rfl (fun c2 => ?_) (fun c2 => ?_)
    · have hf := (if_neg c2).symm.trans hf
      refine lv_iconst C.1 C.2.1 dX10_downBy_17 ic_0 ?_
      cases hf
      exact m_iret C hW dX10_downBy_18
    · have hf := (if_pos c2).symm.trans hf
      refine lv_iconst C.1 C.2.1 dX10_downBy_13 ic_1 ?_
      refine lv_goto (tgt := 18) C.1 C.2.1 dX10_downBy_14 rfl ?_
      cases hf
      exact m_iret C hW dX10_downBy_18
  · have hf := (if_pos c1).symm.trans hf
    refine lv_iconst C.1 C.2.1 dX10_downBy_4 ic_m1 ?_
    refine lv_goto (tgt := 18) C.1 C.2.1 dX10_downBy_5 rfl ?_
    cases hf
    exact m_iret C hW dX10_downBy_18

def fX10_rightBy (a0 : Int32) (S : MS) : Option Int32 := (if a0 = (1 : Int32) then some (1 : Int32) else (if a0 = (3 : Int32) then some (-1 : Int32) else some (0 : Int32)))
set_option maxRecDepth 100000 in
theorem cX10_rightBy_ok {l : Launch} {G : Gv} {L : List Nat} {S : MS} {a0 : Int32} {q : Int32}  (hf : fX10_rightBy a0 S = some q) : Mt l yX10_rightBy cX10_rightBy 1 (some .int) (1) G shX L S [.int a0] (some (.int q)) S := by
  refine m_enter (lv := [(0, .int a0)]) (plainFor_of_name (by decide)) (Nat.le_of_ble_eq_true rfl) rfl ?_
  intro p e s m below meth c A ls C hW hl
  unfold fX10_rightBy at hf
  refine lv_iload_n C.1 C.2.1 dX10_rightBy_0 rfl (lv_at hl 0 rfl) ?_
  refine lv_iconst C.1 C.2.1 dX10_rightBy_1 ic_1 ?_
  refine lv_icmp_ne (tgt := 9) C.1 C.2.1 dX10_rightBy_2 rfl (fun c1 => ?_) (fun c1 => ?_)
  · have hf := (if_neg c1).symm.trans hf
    refine lv_iload_n C.1 C.2.1 dX10_rightBy_9 rfl (lv_at hl 0 rfl) ?_
    refine lv_iconst C.1 C.2.1 dX10_rightBy_10 ic_3 ?_
    refine lv_icmp_ne (tgt := 18) C.1 C.2.1 dX10_rightBy_11 rfl (fun c2 => ?_) (fun c2 => ?_)
    · have hf := (if_neg c2).symm.trans hf
      refine lv_iconst C.1 C.2.1 dX10_rightBy_18 ic_0 ?_
      cases hf
      exact m_iret C hW dX10_rightBy_19
    · have hf := (if_pos c2).symm.trans hf
      refine lv_iconst C.1 C.2.1 dX10_rightBy_14 ic_m1 ?_
      refine lv_goto (tgt := 19) C.1 C.2.1 dX10_rightBy_15 rfl ?_
      cases hf
      exact m_iret C hW dX10_rightBy_19
  · have hf := (if_pos c1).symm.trans hf
    refine lv_iconst C.1 C.2.1 dX10_rightBy_5 ic_1 ?_
    refine lv_goto (tgt := 19) C.1 C.2.1 dX10_rightBy_6 rfl ?_
    cases hf
    exact m_iret C hW dX10_rightBy_19

def fX10_putBytes_40 (K3 : Nat → Int32 → Int32 → MS → Option MS) (x0 : Nat) (x1 : Int32) (x2 : Int32) (S : MS) : Option MS := K3 x0 x1 (x2 + (-8 : Int32)) S
def fX10_putBytes_3  : Nat → Nat → Int32 → Int32 → MS → Option MS
  | 0, _, _, _, _ => none
  | n + 1, x0, x1, x2, S => (if x2 < (0 : Int32) then some S else (if (700 : Int32) ≤ (gI S x0 12) then fX10_putBytes_40 (fX10_putBytes_3  n) x0 x1 x2 S else (if bnd (gI S x0 12) (lnX (gR S x0 0)) = true then fX10_putBytes_40 (fX10_putBytes_3  n) x0 x1 x2 (pI (pI S (gR S x0 0) ((gI S x0 12).toNatClampNeg) (vp_nar .byte ((x1 >>> (x2 &&& 31)).toInt8.toInt32))) x0 12 ((gI (pI S (gR S x0 0) ((gI S x0 12).toNatClampNeg) (vp_nar .byte ((x1 >>> (x2 &&& 31)).toInt8.toInt32))) x0 12) + (1 : Int32))) else none)))
def fX10_putBytes (a0 : Nat) (a1 : Int32) (S : MS) : Option MS := fX10_putBytes_3  1000 a0 a1 (24 : Int32) S
set_option maxRecDepth 100000 in
theorem kX10_putBytes_40 {p : Program} {l : Launch} {e : Env} {s : State} {m : MethodId} {av : Array Value} {below : List Frame} {meth : Method} {c : Code} {A : Nat → Prop} {G : Gv} {L : List Nat} {q : MS} {K3 : Nat → Int32 → Int32 → MS → Option MS} (hK3 : ∀ (x0 : Nat) (x1 : Int32) (x2 : Int32) (S : MS) (H : Heap) (locs : List Loc) (ls : Array Slot), (x0 < shX.1 ∧ shX.2.1 x0 = 10) → mW G shX L S A s H locs → lv_has ls 3 [(0, .ref (ad L x0)), (1, .int x1), (2, .int x2)] → K3 x0 x1 x2 S = some q → W p l e (rmd (1)) s m av below meth c H locs 0 0 (MQ below (mQ G shX L q none A) av s 0 0 A) (F0 m 3 ls [])) (C : mC p s m av meth c cX10_putBytes RX10 3 none) : ∀ (x0 : Nat) (x1 : Int32) (x2 : Int32) (S : MS) (H : Heap) (locs : List Loc) (ls : Array Slot), (x0 < shX.1 ∧ shX.2.1 x0 = 10) → mW G shX L S A s H locs → lv_has ls 3 [(0, .ref (ad L x0)), (1, .int x1), (2, .int x2)] → fX10_putBytes_40 K3 x0 x1 x2 S = some q → W p l e (rmd (1)) s m av below meth c H locs 0 0 (MQ below (mQ G shX L q none A) av s 0 0 A) (F0 m 40 ls []) := by
  intro x0 x1 x2 S H locs ls hx0 hW hl hf
  unfold fX10_putBytes_40 at hf
  refine lv_iinc (v := x2 + (-8 : Int32)) (lv' := [(2, .int (x2 + (-8 : Int32))), (0, .ref (ad L x0)), (1, .int x1)]) C.1 C.2.1 dX10_putBytes_40 hl (k := 2) rfl (congrArg (fun z => x2 + z) ic_m8) (by decide) rfl (fun ls hl => ?_)
  refine lv_goto (tgt := 3) C.1 C.2.1 dX10_putBytes_43 rfl ?_
  exact hK3 x0 x1 (x2 + (-8 : Int32)) _ _ _ _ hx0 hW (lv_sub hl [1, 2, 0] rfl) hf

set_option maxRecDepth 100000 in
theorem kX10_putBytes_3 {p : Program} {l : Launch} {e : Env} {s : State} {m : MethodId} {av : Array Value} {below : List Frame} {meth : Method} {c : Code} {A : Nat → Prop} {G : Gv} {L : List Nat} {q : MS}  (C : mC p s m av meth c cX10_putBytes RX10 3 none) : ∀ (n : Nat) (x0 : Nat) (x1 : Int32) (x2 : Int32) (S : MS) (H : Heap) (locs : List Loc) (ls : Array Slot), (x0 < shX.1 ∧ shX.2.1 x0 = 10) → mW G shX L S A s H locs → lv_has ls 3 [(0, .ref (ad L x0)), (1, .int x1), (2, .int x2)] → fX10_putBytes_3  n x0 x1 x2 S = some q → W p l e (rmd (1)) s m av below meth c H locs 0 0 (MQ below (mQ G shX L q none A) av s 0 0 A) (F0 m 3 ls []) := by
  intro n
  induction n with
  | zero =>
    intro x0 x1 x2 S H locs ls hx0 hW hl hf
    rw [fX10_putBytes_3] at hf
    cases hf
  | succ n ih =>
    intro x0 x1 x2 S H locs ls hx0 hW hl hf
    rw [fX10_putBytes_3] at hf
    refine lv_iload_n C.1 C.2.1 dX10_putBytes_3 rfl (lv_at hl 2 rfl) ?_
    refine lv_if_lt (tgt := 46) C.1 C.2.1 dX10_putBytes_4 rfl (fun c1 => ?_) (fun c1 => ?_)
    · have hf := (if_pos c1).symm.trans hf
      cases hf
      exact m_vret C hW dX10_putBytes_46
    · have hf := (if_neg c1).symm.trans hf
      refine lv_aload_n C.1 C.2.1 dX10_putBytes_7 rfl (lv_at hl 0 rfl) ?_
      refine m_geti C hW hx0 flX10_92 dX10_putBytes_8 ?_
      refine lv_sipush C.1 C.2.1 dX10_putBytes_11 sp_700 ?_
      refine lv_icmp_ge (tgt := 40) C.1 C.2.1 dX10_putBytes_14 rfl (fun c2 => ?_) (fun c2 => ?_)
      · have hf := (if_pos c2).symm.trans hf
        exact kX10_putBytes_40 ih C x0 x1 x2 _ _ _ _ hx0 hW (lv_sub hl [0, 1, 2] rfl) hf
      · have hf := (if_neg c2).symm.trans hf
        refine lv_aload_n C.1 C.2.1 dX10_putBytes_17 rfl (lv_at hl 0 rfl) ?_
        refine m_getr C hW hx0 flX10_9 (by decide) dX10_putBytes_18 (fun hk3 => ?_)
        refine lv_aload_n C.1 C.2.1 dX10_putBytes_21 rfl (lv_at hl 0 rfl) ?_
        refine m_geti C hW hx0 flX10_92 dX10_putBytes_22 ?_
        refine lv_iload_n C.1 C.2.1 dX10_putBytes_25 rfl (lv_at hl 1 rfl) ?_
        refine lv_iload_n C.1 C.2.1 dX10_putBytes_26 rfl (lv_at hl 2 rfl) ?_
        refine lv_ishr C.1 C.2.1 dX10_putBytes_27 ?_
        refine lv_i2b C.1 C.2.1 dX10_putBytes_28 rfl ?_
        obtain ⟨hb4, hf⟩ := gd hf
        refine m_bast C hW hk3 hb4 dX10_putBytes_29 (fun H locs hW => ?_)
        refine lv_aload_n C.1 C.2.1 dX10_putBytes_30 rfl (lv_at hl 0 rfl) ?_
        refine lv_dup C.1 C.2.1 dX10_putBytes_31 rfl ?_
        refine m_geti C hW hx0 flX10_92 dX10_putBytes_32 ?_
        refine lv_iconst C.1 C.2.1 dX10_putBytes_35 ic_1 ?_
        refine lv_iadd C.1 C.2.1 dX10_putBytes_36 ?_
        refine m_puti C hW hx0 fpX10_92 dX10_putBytes_37 (fun H locs hW => ?_)
        exact kX10_putBytes_40 ih C x0 x1 x2 _ _ _ _ hx0 hW (lv_sub hl [0, 1, 2] rfl) hf

set_option maxRecDepth 100000 in
theorem cX10_putBytes_ok {l : Launch} {G : Gv} {L : List Nat} {S : MS} {a0 : Nat} {a1 : Int32} {q : MS} (ha0 : a0 < shX.1 ∧ shX.2.1 a0 = 10) (hf : fX10_putBytes a0 a1 S = some q) : Mt l yX10_putBytes cX10_putBytes 3 none (1) G shX L S [.ref (ad L a0), .int a1] none q := by
  refine m_enter (lv := [(0, .ref (ad L a0)), (1, .int a1)]) (plainFor_of_name (by decide)) (Nat.le_of_ble_eq_true rfl) rfl ?_
  intro p e s m below meth c A ls C hW hl
  unfold fX10_putBytes at hf
  refine lv_bipush C.1 C.2.1 dX10_putBytes_0 bp_24 ?_
  refine lv_istore_n (lv' := [(2, .int (24 : Int32)), (0, .ref (ad L a0)), (1, .int a1)]) C.1 C.2.1 dX10_putBytes_2 rfl hl (by decide) rfl (fun ls hl => ?_)
  exact kX10_putBytes_3  C 1000 a0 a1 (24 : Int32) _ _ _ _ ha0 hW (lv_sub hl [1, 2, 0] rfl) hf

def fX10_fault (a0 : Nat) (a1 : Int32) (S : MS) : Option Int32 := (if a1 = (0 : Int32) then some (gI S a0 13) else (if a1 = (1 : Int32) then some (gI S a0 14) else some (-1 : Int32)))
set_option maxRecDepth 100000 in
theorem cX10_fault_ok {l : Launch} {G : Gv} {L : List Nat} {S : MS} {a0 : Nat} {a1 : Int32} {q : Int32} (ha0 : a0 < shX.1 ∧ shX.2.1 a0 = 10) (hf : fX10_fault a0 a1 S = some q) : Mt l yX10_fault cX10_fault 2 (some .int) (1) G shX L S [.ref (ad L a0), .int a1] (some (.int q)) S := by
  refine m_enter (lv := [(0, .ref (ad L a0)), (1, .int a1)]) (plainFor_of_name (by decide)) (Nat.le_of_ble_eq_true rfl) rfl ?_
  intro p e s m below meth c A ls C hW hl
  unfold fX10_fault at hf
  refine lv_iload_n C.1 C.2.1 dX10_fault_0 rfl (lv_at hl 1 rfl) ?_
  refine lv_if_ne (tgt := 9) C.1 C.2.1 dX10_fault_1 rfl (fun c1 => ?_) (fun c1 => ?_)
  · have hf := (if_neg c1).symm.trans hf
    refine lv_iload_n C.1 C.2.1 dX10_fault_9 rfl (lv_at hl 1 rfl) ?_
    refine lv_iconst C.1 C.2.1 dX10_fault_10 ic_1 ?_
    refine lv_icmp_ne (tgt := 21) C.1 C.2.1 dX10_fault_11 rfl (fun c2 => ?_) (fun c2 => ?_)
    · have hf := (if_neg c2).symm.trans hf
      refine lv_iconst C.1 C.2.1 dX10_fault_21 ic_m1 ?_
      cases hf
      exact m_iret C hW dX10_fault_22
    · have hf := (if_pos c2).symm.trans hf
      refine lv_aload_n C.1 C.2.1 dX10_fault_14 rfl (lv_at hl 0 rfl) ?_
      refine m_geti C hW ha0 flX10_82 dX10_fault_15 ?_
      refine lv_goto (tgt := 22) C.1 C.2.1 dX10_fault_18 rfl ?_
      cases hf
      exact m_iret C hW dX10_fault_22
  · have hf := (if_pos c1).symm.trans hf
    refine lv_aload_n C.1 C.2.1 dX10_fault_4 rfl (lv_at hl 0 rfl) ?_
    refine m_geti C hW ha0 flX10_113 dX10_fault_5 ?_
    cases hf
    exact m_iret C hW dX10_fault_8

def fX10_engagedTo (a0 : Nat) (a1 : Int32) (S : MS) : Option Int32 := (if bnd a1 (lnX (gR S (gR S a0 9) 0)) = true then (if bnd a1 (lnX (gR S (gR S a0 9) 1)) = true then (if gI S (gR S (gR S a0 9) 0) a1.toNatClampNeg = gI S (gR S (gR S a0 9) 1) a1.toNatClampNeg then some (-2 : Int32) else (if bnd a1 (lnX (gR S (gR S a0 9) 0)) = true then (if bnd a1 (lnX (gR S (gR S a0 9) 1)) = true then (if (gI S (gR S (gR S a0 9) 0) a1.toNatClampNeg) ≤ (gI S (gR S (gR S a0 9) 1) a1.toNatClampNeg) then some (1 : Int32) else some (0 : Int32)) else none) else none)) else none) else none)
set_option maxRecDepth 100000 in
theorem cX10_engagedTo_ok {l : Launch} {G : Gv} {L : List Nat} {S : MS} {a0 : Nat} {a1 : Int32} {q : Int32} (ha0 : a0 < shX.1 ∧ shX.2.1 a0 = 10) (hf : fX10_engagedTo a0 a1 S = some q) : Mt l yX10_engagedTo cX10_engagedTo 2 (some .int) (1) G shX L S [.ref (ad L a0), .int a1] (some (.int q)) S := by
  refine m_enter (lv := [(0, .ref (ad L a0)), (1, .int a1)]) (plainFor_of_name (by decide)) (Nat.le_of_ble_eq_true rfl) rfl ?_
  intro p e s m below meth c A ls C hW hl
  unfold fX10_engagedTo at hf
  refine lv_aload_n C.1 C.2.1 dX10_engagedTo_0 rfl (lv_at hl 0 rfl) ?_
  refine m_getr C hW ha0 flX10_72 (by decide) dX10_engagedTo_1 (fun hk1 => ?_)
  refine m_getr C hW hk1 flX10_204 (by decide) dX10_engagedTo_4 (fun hk2 => ?_)
  refine lv_iload_n C.1 C.2.1 dX10_engagedTo_7 rfl (lv_at hl 1 rfl) ?_
  obtain ⟨hb3, hf⟩ := gd hf
  refine m_iald C hW hk2 hb3 dX10_engagedTo_8 ?_
  refine lv_aload_n C.1 C.2.1 dX10_engagedTo_9 rfl (lv_at hl 0 rfl) ?_
  refine m_getr C hW ha0 flX10_72 (by decide) dX10_engagedTo_10 (fun hk4 => ?_)
  refine m_getr C hW hk4 flX10_208 (by decide) dX10_engagedTo_13 (fun hk5 => ?_)
  refine lv_iload_n C.1 C.2.1 dX10_engagedTo_16 rfl (lv_at hl 1 rfl) ?_
  obtain ⟨hb6, hf⟩ := gd hf
  refine m_iald C hW hk5 hb6 dX10_engagedTo_17 ?_
  refine lv_icmp_ne (tgt := 24) C.1 C.2.1 dX10_engagedTo_18 rfl (fun c7 => ?_) (fun c7 => ?_)
  · have hf := (if_neg c7).symm.trans hf
    refine lv_aload_n C.1 C.2.1 dX10_engagedTo_24 rfl (lv_at hl 0 rfl) ?_
    refine m_getr C hW ha0 flX10_72 (by decide) dX10_engagedTo_25 (fun hk8 => ?_)
    refine m_getr C hW hk8 flX10_204 (by decide) dX10_engagedTo_28 (fun hk9 => ?_)
    refine lv_iload_n C.1 C.2.1 dX10_engagedTo_31 rfl (lv_at hl 1 rfl) ?_
    obtain ⟨hb10, hf⟩ := gd hf
    refine m_iald C hW hk9 hb10 dX10_engagedTo_32 ?_
    refine lv_aload_n C.1 C.2.1 dX10_engagedTo_33 rfl (lv_at hl 0 rfl) ?_
    refine m_getr C hW ha0 flX10_72 (by decide) dX10_engagedTo_34 (fun hk11 => ?_)
    refine m_getr C hW hk11 flX10_208 (by decide) dX10_engagedTo_37 (fun hk12 => ?_)
    refine lv_iload_n C.1 C.2.1 dX10_engagedTo_40 rfl (lv_at hl 1 rfl) ?_
    obtain ⟨hb13, hf⟩ := gd hf
    refine m_iald C hW hk12 hb13 dX10_engagedTo_41 ?_
    refine lv_icmp_le (tgt := 49) C.1 C.2.1 dX10_engagedTo_42 rfl (fun c14 => ?_) (fun c14 => ?_)
    · have hf := (if_pos c14).symm.trans hf
      refine lv_iconst C.1 C.2.1 dX10_engagedTo_49 ic_1 ?_
      cases hf
      exact m_iret C hW dX10_engagedTo_50
    · have hf := (if_neg c14).symm.trans hf
      refine lv_iconst C.1 C.2.1 dX10_engagedTo_45 ic_0 ?_
      refine lv_goto (tgt := 50) C.1 C.2.1 dX10_engagedTo_46 rfl ?_
      cases hf
      exact m_iret C hW dX10_engagedTo_50
  · have hf := (if_pos c7).symm.trans hf
    refine lv_bipush C.1 C.2.1 dX10_engagedTo_21 bp_m2 ?_
    cases hf
    exact m_iret C hW dX10_engagedTo_23

def fX10_areHours (a0 : Int32) (S : MS) : Option Int32 := (if a0 < (0 : Int32) then some (0 : Int32) else (if (99 : Int32) < a0 then some (0 : Int32) else some (1 : Int32)))
set_option maxRecDepth 100000 in
theorem cX10_areHours_ok {l : Launch} {G : Gv} {L : List Nat} {S : MS} {a0 : Int32} {q : Int32}  (hf : fX10_areHours a0 S = some q) : Mt l yX10_areHours cX10_areHours 1 (some .boolean) (1) G shX L S [.int a0] (some (.int q)) S := by
  refine m_enter (lv := [(0, .int a0)]) (plainFor_of_name (by decide)) (Nat.le_of_ble_eq_true rfl) rfl ?_
  intro p e s m below meth c A ls C hW hl
  unfold fX10_areHours at hf
  refine lv_iload_n C.1 C.2.1 dX10_areHours_0 rfl (lv_at hl 0 rfl) ?_
  refine lv_if_lt (tgt := 14) C.1 C.2.1 dX10_areHours_1 rfl (fun c1 => ?_) (fun c1 => ?_)
  · have hf := (if_pos c1).symm.trans hf
    refine lv_iconst C.1 C.2.1 dX10_areHours_14 ic_0 ?_
    cases hf
    exact m_zret C hW rfl dX10_areHours_15
  · have hf := (if_neg c1).symm.trans hf
    refine lv_iload_n C.1 C.2.1 dX10_areHours_4 rfl (lv_at hl 0 rfl) ?_
    refine lv_bipush C.1 C.2.1 dX10_areHours_5 bp_99 ?_
    refine lv_icmp_gt (tgt := 14) C.1 C.2.1 dX10_areHours_7 rfl (fun c2 => ?_) (fun c2 => ?_)
    · have hf := (if_pos c2).symm.trans hf
      refine lv_iconst C.1 C.2.1 dX10_areHours_14 ic_0 ?_
      cases hf
      exact m_zret C hW rfl dX10_areHours_15
    · have hf := (if_neg c2).symm.trans hf
      refine lv_iconst C.1 C.2.1 dX10_areHours_10 ic_1 ?_
      refine lv_goto (tgt := 15) C.1 C.2.1 dX10_areHours_11 rfl ?_
      cases hf
      exact m_zret C hW rfl dX10_areHours_15

def fX10_shareOf_25  (x0 : Nat) (x1 : Int32) (x2 : Int32) (x3 : Int32) (x4 : Int32) (y0 : Int32) (S : MS) : Option Int32 := (if x3 = x4 then (if bnd x1 (lnX (gR S (gR S x0 9) 2)) = true then (if bnd x2 (lnX (gR S (gR S x0 9) 2)) = true then (if (gI S (gR S (gR S x0 9) 2) x1.toNatClampNeg) ≤ (gI S (gR S (gR S x0 9) 2) x2.toNatClampNeg) then some ((y0 / (2 : Int32)) + (0 : Int32)) else some ((y0 / (2 : Int32)) + (1 : Int32))) else none) else none) else some y0)
def fX10_shareOf (a0 : Nat) (a1 : Int32) (a2 : Int32) (a3 : Int32) (a4 : Int32) (S : MS) : Option Int32 := (if a3 = (0 : Int32) then (if bnd a1 (lnX (gR S (gR S a0 9) 0)) = true then fX10_shareOf_25  a0 a1 a2 a3 a4 (gI S (gR S (gR S a0 9) 0) a1.toNatClampNeg) S else none) else (if bnd a1 (lnX (gR S (gR S a0 9) 1)) = true then fX10_shareOf_25  a0 a1 a2 a3 a4 (gI S (gR S (gR S a0 9) 1) a1.toNatClampNeg) S else none))
set_option maxRecDepth 100000 in
theorem kX10_shareOf_25 {p : Program} {l : Launch} {e : Env} {s : State} {m : MethodId} {av : Array Value} {below : List Frame} {meth : Method} {c : Code} {A : Nat → Prop} {G : Gv} {L : List Nat} {S : MS} {q : Int32}  (C : mC p s m av meth c cX10_shareOf RX10 6 (some .int)) : ∀ (x0 : Nat) (x1 : Int32) (x2 : Int32) (x3 : Int32) (x4 : Int32) (y0 : Int32) (H : Heap) (locs : List Loc) (ls : Array Slot), (x0 < shX.1 ∧ shX.2.1 x0 = 10) → mW G shX L S A s H locs → lv_has ls 6 [(0, .ref (ad L x0)), (1, .int x1), (2, .int x2), (3, .int x3), (4, .int x4)] → fX10_shareOf_25  x0 x1 x2 x3 x4 y0 S = some q → W p l e (rmd (1)) s m av below meth c H locs 0 0 (MQ below (mQ G shX L S (some (.int q)) A) av s 0 0 A) (F0 m 25 ls [.int y0]) := by
  intro x0 x1 x2 x3 x4 y0 H locs ls hx0 hW hl hf
  unfold fX10_shareOf_25 at hf
  refine lv_istore (lv' := [(5, .int y0), (0, .ref (ad L x0)), (1, .int x1), (2, .int x2), (3, .int x3), (4, .int x4)]) C.1 C.2.1 dX10_shareOf_25 hl (by decide) rfl (fun ls hl => ?_)
  refine lv_iload_n C.1 C.2.1 dX10_shareOf_27 rfl (lv_at hl 4 rfl) ?_
  refine lv_iload C.1 C.2.1 dX10_shareOf_28 (lv_at hl 5 rfl) ?_
  refine lv_icmp_eq (tgt := 36) C.1 C.2.1 dX10_shareOf_30 rfl (fun c1 => ?_) (fun c1 => ?_)
  · have hf := (if_pos c1).symm.trans hf
    refine lv_iload C.1 C.2.1 dX10_shareOf_36 (lv_at hl 0 rfl) ?_
    refine lv_iconst C.1 C.2.1 dX10_shareOf_38 ic_2 ?_
    refine lv_idiv C.1 C.2.1 dX10_shareOf_39 (by decide) ?_
    refine lv_aload_n C.1 C.2.1 dX10_shareOf_40 rfl (lv_at hl 1 rfl) ?_
    refine m_getr C hW hx0 flX10_72 (by decide) dX10_shareOf_41 (fun hk2 => ?_)
    refine m_getr C hW hk2 flX10_211 (by decide) dX10_shareOf_44 (fun hk3 => ?_)
    refine lv_iload_n C.1 C.2.1 dX10_shareOf_47 rfl (lv_at hl 2 rfl) ?_
    obtain ⟨hb4, hf⟩ := gd hf
    refine m_iald C hW hk3 hb4 dX10_shareOf_48 ?_
    refine lv_aload_n C.1 C.2.1 dX10_shareOf_49 rfl (lv_at hl 1 rfl) ?_
    refine m_getr C hW hx0 flX10_72 (by decide) dX10_shareOf_50 (fun hk5 => ?_)
    refine m_getr C hW hk5 flX10_211 (by decide) dX10_shareOf_53 (fun hk6 => ?_)
    refine lv_iload_n C.1 C.2.1 dX10_shareOf_56 rfl (lv_at hl 3 rfl) ?_
    obtain ⟨hb7, hf⟩ := gd hf
    refine m_iald C hW hk6 hb7 dX10_shareOf_57 ?_
    refine lv_icmp_le (tgt := 65) C.1 C.2.1 dX10_shareOf_58 rfl (fun c8 => ?_) (fun c8 => ?_)
    · have hf := (if_pos c8).symm.trans hf
      refine lv_iconst C.1 C.2.1 dX10_shareOf_65 ic_0 ?_
      refine lv_iadd C.1 C.2.1 dX10_shareOf_66 ?_
      cases hf
      exact m_iret C hW dX10_shareOf_67
    · have hf := (if_neg c8).symm.trans hf
      refine lv_iconst C.1 C.2.1 dX10_shareOf_61 ic_1 ?_
      refine lv_goto (tgt := 66) C.1 C.2.1 dX10_shareOf_62 rfl ?_
      refine lv_iadd C.1 C.2.1 dX10_shareOf_66 ?_
      cases hf
      exact m_iret C hW dX10_shareOf_67
  · have hf := (if_neg c1).symm.trans hf
    refine lv_iload C.1 C.2.1 dX10_shareOf_33 (lv_at hl 0 rfl) ?_
    cases hf
    exact m_iret C hW dX10_shareOf_35

set_option maxRecDepth 100000 in
theorem cX10_shareOf_ok {l : Launch} {G : Gv} {L : List Nat} {S : MS} {a0 : Nat} {a1 : Int32} {a2 : Int32} {a3 : Int32} {a4 : Int32} {q : Int32} (ha0 : a0 < shX.1 ∧ shX.2.1 a0 = 10) (hf : fX10_shareOf a0 a1 a2 a3 a4 S = some q) : Mt l yX10_shareOf cX10_shareOf 6 (some .int) (1) G shX L S [.ref (ad L a0), .int a1, .int a2, .int a3, .int a4] (some (.int q)) S := by
  refine m_enter (lv := [(0, .ref (ad L a0)), (1, .int a1), (2, .int a2), (3, .int a3), (4, .int a4)]) (plainFor_of_name (by decide)) (Nat.le_of_ble_eq_true rfl) rfl ?_
  intro p e s m below meth c A ls C hW hl
  unfold fX10_shareOf at hf
  refine lv_iload_n C.1 C.2.1 dX10_shareOf_0 rfl (lv_at hl 3 rfl) ?_
  refine lv_if_ne (tgt := 16) C.1 C.2.1 dX10_shareOf_1 rfl (fun c9 => ?_) (fun c9 => ?_)
  · have hf := (if_neg c9).symm.trans hf
    refine lv_aload_n C.1 C.2.1 dX10_shareOf_16 rfl (lv_at hl 0 rfl) ?_
    refine m_getr C hW ha0 flX10_72 (by decide) dX10_shareOf_17 (fun hk10 => ?_)
    refine m_getr C hW hk10 flX10_208 (by decide) dX10_shareOf_20 (fun hk11 => ?_)
    refine lv_iload_n C.1 C.2.1 dX10_shareOf_23 rfl (lv_at hl 1 rfl) ?_
    obtain ⟨hb12, hf⟩ := gd hf
    refine m_iald C hW hk11 hb12 dX10_shareOf_24 ?_
    exact kX10_shareOf_25  C a0 a1 a2 a3 a4 (gI S (gR S (gR S a0 9) 1) a1.toNatClampNeg) _ _ _ ha0 hW (lv_sub hl [0, 1, 2, 3, 4] rfl) hf
  · have hf := (if_pos c9).symm.trans hf
    refine lv_aload_n C.1 C.2.1 dX10_shareOf_4 rfl (lv_at hl 0 rfl) ?_
    refine m_getr C hW ha0 flX10_72 (by decide) dX10_shareOf_5 (fun hk13 => ?_)
    refine m_getr C hW hk13 flX10_204 (by decide) dX10_shareOf_8 (fun hk14 => ?_)
    refine lv_iload_n C.1 C.2.1 dX10_shareOf_11 rfl (lv_at hl 1 rfl) ?_
    obtain ⟨hb15, hf⟩ := gd hf
    refine m_iald C hW hk14 hb15 dX10_shareOf_12 ?_
    refine lv_goto (tgt := 25) C.1 C.2.1 dX10_shareOf_13 rfl ?_
    exact kX10_shareOf_25  C a0 a1 a2 a3 a4 (gI S (gR S (gR S a0 9) 0) a1.toNatClampNeg) _ _ _ ha0 hW (lv_sub hl [0, 1, 2, 3, 4] rfl) hf

def fX10_commonDivisor_21 (K2 : Int32 → Int32 → Int32 → MS → Option Int32) (x0 : Int32) (x1 : Int32) (x2 : Int32) (S : MS) : Option Int32 := K2 x0 x1 (x2 + (-1 : Int32)) S
def fX10_commonDivisor_2  : Nat → Int32 → Int32 → Int32 → MS → Option Int32
  | 0, _, _, _, _ => none
  | n + 1, x0, x1, x2, S => (if x2 ≤ (1 : Int32) then some (1 : Int32) else (if x2 = (0 : Int32) then none else (if x0 - (x0 / x2) * x2 = (0 : Int32) then (if x2 = (0 : Int32) then none else (if x1 - (x1 / x2) * x2 = (0 : Int32) then some x2 else fX10_commonDivisor_21 (fX10_commonDivisor_2  n) x0 x1 x2 S)) else fX10_commonDivisor_21 (fX10_commonDivisor_2  n) x0 x1 x2 S)))
def fX10_commonDivisor (a0 : Int32) (a1 : Int32) (S : MS) : Option Int32 := fX10_commonDivisor_2  1000 a0 a1 a0 S
set_option maxRecDepth 100000 in
theorem kX10_commonDivisor_21 {p : Program} {l : Launch} {e : Env} {s : State} {m : MethodId} {av : Array Value} {below : List Frame} {meth : Method} {c : Code} {A : Nat → Prop} {G : Gv} {L : List Nat} {S : MS} {q : Int32} {K2 : Int32 → Int32 → Int32 → MS → Option Int32} (hK2 : ∀ (x0 : Int32) (x1 : Int32) (x2 : Int32) (H : Heap) (locs : List Loc) (ls : Array Slot), mW G shX L S A s H locs → lv_has ls 3 [(0, .int x0), (1, .int x1), (2, .int x2)] → K2 x0 x1 x2 S = some q → W p l e (rmd (1)) s m av below meth c H locs 0 0 (MQ below (mQ G shX L S (some (.int q)) A) av s 0 0 A) (F0 m 2 ls [])) (C : mC p s m av meth c cX10_commonDivisor RX10 3 (some .int)) : ∀ (x0 : Int32) (x1 : Int32) (x2 : Int32) (H : Heap) (locs : List Loc) (ls : Array Slot), mW G shX L S A s H locs → lv_has ls 3 [(0, .int x0), (1, .int x1), (2, .int x2)] → fX10_commonDivisor_21 K2 x0 x1 x2 S = some q → W p l e (rmd (1)) s m av below meth c H locs 0 0 (MQ below (mQ G shX L S (some (.int q)) A) av s 0 0 A) (F0 m 21 ls []) := by
  intro x0 x1 x2 H locs ls  hW hl hf
  unfold fX10_commonDivisor_21 at hf
  refine lv_iinc (v := x2 + (-1 : Int32)) (lv' := [(2, .int (x2 + (-1 : Int32))), (0, .int x0), (1, .int x1)]) C.1 C.2.1 dX10_commonDivisor_21 hl (k := 2) rfl (congrArg (fun z => x2 + z) ic_m1) (by decide) rfl (fun ls hl => ?_)
  refine lv_goto (tgt := 2) C.1 C.2.1 dX10_commonDivisor_24 rfl ?_
  exact hK2 x0 x1 (x2 + (-1 : Int32)) _ _ _  hW (lv_sub hl [1, 2, 0] rfl) hf

set_option maxRecDepth 100000 in
theorem kX10_commonDivisor_2 {p : Program} {l : Launch} {e : Env} {s : State} {m : MethodId} {av : Array Value} {below : List Frame} {meth : Method} {c : Code} {A : Nat → Prop} {G : Gv} {L : List Nat} {S : MS} {q : Int32}  (C : mC p s m av meth c cX10_commonDivisor RX10 3 (some .int)) : ∀ (n : Nat) (x0 : Int32) (x1 : Int32) (x2 : Int32) (H : Heap) (locs : List Loc) (ls : Array Slot), mW G shX L S A s H locs → lv_has ls 3 [(0, .int x0), (1, .int x1), (2, .int x2)] → fX10_commonDivisor_2  n x0 x1 x2 S = some q → W p l e (rmd (1)) s m av below meth c H locs 0 0 (MQ below (mQ G shX L S (some (.int q)) A) av s 0 0 A) (F0 m 2 ls []) := by
  intro n
  induction n with
  | zero =>
    intro x0 x1 x2 H locs ls  hW hl hf
    rw [fX10_commonDivisor_2] at hf
    cases hf
  | succ n ih =>
    intro x0 x1 x2 H locs ls  hW hl hf
    rw [fX10_commonDivisor_2] at hf
    refine lv_iload_n C.1 C.2.1 dX10_commonDivisor_2 rfl (lv_at hl 2 rfl) ?_
    refine lv_iconst C.1 C.2.1 dX10_commonDivisor_3 ic_1 ?_
    refine lv_icmp_le (tgt := 27) C.1 C.2.1 dX10_commonDivisor_4 rfl (fun c1 => ?_) (fun c1 => ?_)
    · have hf := (if_pos c1).symm.trans hf
      refine lv_iconst C.1 C.2.1 dX10_commonDivisor_27 ic_1 ?_
      cases hf
      exact m_iret C hW dX10_commonDivisor_28
    · have hf := (if_neg c1).symm.trans hf
      refine lv_iload_n C.1 C.2.1 dX10_commonDivisor_7 rfl (lv_at hl 0 rfl) ?_
      refine lv_iload_n C.1 C.2.1 dX10_commonDivisor_8 rfl (lv_at hl 2 rfl) ?_
      obtain ⟨hz2, hf⟩ := nz hf
      refine lv_irem C.1 C.2.1 dX10_commonDivisor_9 hz2 ?_
      refine lv_if_ne (tgt := 21) C.1 C.2.1 dX10_commonDivisor_10 rfl (fun c3 => ?_) (fun c3 => ?_)
      · have hf := (if_neg c3).symm.trans hf
        exact kX10_commonDivisor_21 ih C x0 x1 x2 _ _ _  hW (lv_sub hl [0, 1, 2] rfl) hf
      · have hf := (if_pos c3).symm.trans hf
        refine lv_iload_n C.1 C.2.1 dX10_commonDivisor_13 rfl (lv_at hl 1 rfl) ?_
        refine lv_iload_n C.1 C.2.1 dX10_commonDivisor_14 rfl (lv_at hl 2 rfl) ?_
        obtain ⟨hz4, hf⟩ := nz hf
        refine lv_irem C.1 C.2.1 dX10_commonDivisor_15 hz4 ?_
        refine lv_if_ne (tgt := 21) C.1 C.2.1 dX10_commonDivisor_16 rfl (fun c5 => ?_) (fun c5 => ?_)
        · have hf := (if_neg c5).symm.trans hf
          exact kX10_commonDivisor_21 ih C x0 x1 x2 _ _ _  hW (lv_sub hl [0, 1, 2] rfl) hf
        · have hf := (if_pos c5).symm.trans hf
          refine lv_iload_n C.1 C.2.1 dX10_commonDivisor_19 rfl (lv_at hl 2 rfl) ?_
          cases hf
          exact m_iret C hW dX10_commonDivisor_20

set_option maxRecDepth 100000 in
theorem cX10_commonDivisor_ok {l : Launch} {G : Gv} {L : List Nat} {S : MS} {a0 : Int32} {a1 : Int32} {q : Int32}  (hf : fX10_commonDivisor a0 a1 S = some q) : Mt l yX10_commonDivisor cX10_commonDivisor 3 (some .int) (1) G shX L S [.int a0, .int a1] (some (.int q)) S := by
  refine m_enter (lv := [(0, .int a0), (1, .int a1)]) (plainFor_of_name (by decide)) (Nat.le_of_ble_eq_true rfl) rfl ?_
  intro p e s m below meth c A ls C hW hl
  unfold fX10_commonDivisor at hf
  refine lv_iload_n C.1 C.2.1 dX10_commonDivisor_0 rfl (lv_at hl 0 rfl) ?_
  refine lv_istore_n (lv' := [(2, .int a0), (0, .int a0), (1, .int a1)]) C.1 C.2.1 dX10_commonDivisor_1 rfl hl (by decide) rfl (fun ls hl => ?_)
  exact kX10_commonDivisor_2  C 1000 a0 a1 a0 _ _ _  hW (lv_sub hl [1, 2, 0] rfl) hf

def fJ6_bitCount_0f7a4_41  (x0 : Int32) (S : MS) : Option Int32 := some ((x0 + ((x0.toUInt32 >>> ((16 : Int32).toUInt32 &&& Int32.toUInt32 31)).toInt32)) &&& (63 : Int32))
def fJ6_bitCount_0f7a4_24  (x0 : Int32) (S : MS) : Option Int32 := fJ6_bitCount_0f7a4_41  (((x0 + ((x0.toUInt32 >>> ((4 : Int32).toUInt32 &&& Int32.toUInt32 31)).toInt32)) &&& (252645135 : Int32)) + ((((x0 + ((x0.toUInt32 >>> ((4 : Int32).toUInt32 &&& Int32.toUInt32 31)).toInt32)) &&& (252645135 : Int32)).toUInt32 >>> ((8 : Int32).toUInt32 &&& Int32.toUInt32 31)).toInt32)) S
def fJ6_bitCount_0f7a4 (a0 : Int32) (S : MS) : Option Int32 := fJ6_bitCount_0f7a4_24  (((a0 - (((a0.toUInt32 >>> ((1 : Int32).toUInt32 &&& Int32.toUInt32 31)).toInt32) &&& (1431655765 : Int32))) &&& (858993459 : Int32)) + ((((a0 - (((a0.toUInt32 >>> ((1 : Int32).toUInt32 &&& Int32.toUInt32 31)).toInt32) &&& (1431655765 : Int32))).toUInt32 >>> ((2 : Int32).toUInt32 &&& Int32.toUInt32 31)).toInt32) &&& (858993459 : Int32))) S
set_option maxRecDepth 100000 in
theorem kJ6_bitCount_0f7a4_41 {p : Program} {l : Launch} {e : Env} {s : State} {m : MethodId} {av : Array Value} {below : List Frame} {meth : Method} {c : Code} {A : Nat → Prop} {G : Gv} {L : List Nat} {S : MS} {q : Int32}  (C : mC p s m av meth c cJ6_bitCount_0f7a4 RJ6 1 (some .int)) : ∀ (x0 : Int32) (H : Heap) (locs : List Loc) (ls : Array Slot), mW G shX L S A s H locs → lv_has ls 1 [(0, .int x0)] → fJ6_bitCount_0f7a4_41  x0 S = some q → W p l e (rmd (1)) s m av below meth c H locs 0 0 (MQ below (mQ G shX L S (some (.int q)) A) av s 0 0 A) (F0 m 41 ls []) := by
  intro x0 H locs ls  hW hl hf
  unfold fJ6_bitCount_0f7a4_41 at hf
  refine lv_iload_n C.1 C.2.1 dJ6_bitCount_0f7a4_41 rfl (lv_at hl 0 rfl) ?_
  refine lv_iload_n C.1 C.2.1 dJ6_bitCount_0f7a4_42 rfl (lv_at hl 0 rfl) ?_
  refine lv_bipush C.1 C.2.1 dJ6_bitCount_0f7a4_43 bp_16 ?_
  refine lv_iushr C.1 C.2.1 dJ6_bitCount_0f7a4_45 rfl ?_
  refine lv_iadd C.1 C.2.1 dJ6_bitCount_0f7a4_46 ?_
  refine lv_istore_n (lv' := [(0, .int (x0 + ((x0.toUInt32 >>> ((16 : Int32).toUInt32 &&& Int32.toUInt32 31)).toInt32)))]) C.1 C.2.1 dJ6_bitCount_0f7a4_47 rfl hl (by decide) rfl (fun ls hl => ?_)
  refine lv_iload_n C.1 C.2.1 dJ6_bitCount_0f7a4_48 rfl (lv_at hl 0 rfl) ?_
  refine lv_bipush C.1 C.2.1 dJ6_bitCount_0f7a4_49 bp_63 ?_
  refine lv_iand C.1 C.2.1 dJ6_bitCount_0f7a4_51 ?_
  cases hf
  exact m_iret C hW dJ6_bitCount_0f7a4_52

set_option maxRecDepth 100000 in
theorem kJ6_bitCount_0f7a4_24 {p : Program} {l : Launch} {e : Env} {s : State} {m : MethodId} {av : Array Value} {below : List Frame} {meth : Method} {c : Code} {A : Nat → Prop} {G : Gv} {L : List Nat} {S : MS} {q : Int32}  (C : mC p s m av meth c cJ6_bitCount_0f7a4 RJ6 1 (some .int)) : ∀ (x0 : Int32) (H : Heap) (locs : List Loc) (ls : Array Slot), mW G shX L S A s H locs → lv_has ls 1 [(0, .int x0)] → fJ6_bitCount_0f7a4_24  x0 S = some q → W p l e (rmd (1)) s m av below meth c H locs 0 0 (MQ below (mQ G shX L S (some (.int q)) A) av s 0 0 A) (F0 m 24 ls []) := by
  intro x0 H locs ls  hW hl hf
  unfold fJ6_bitCount_0f7a4_24 at hf
  refine lv_iload_n C.1 C.2.1 dJ6_bitCount_0f7a4_24 rfl (lv_at hl 0 rfl) ?_
  refine lv_iload_n C.1 C.2.1 dJ6_bitCount_0f7a4_25 rfl (lv_at hl 0 rfl) ?_
  refine lv_iconst C.1 C.2.1 dJ6_bitCount_0f7a4_26 ic_4 ?_
  refine lv_iushr C.1 C.2.1 dJ6_bitCount_0f7a4_27 rfl ?_
  refine lv_iadd C.1 C.2.1 dJ6_bitCount_0f7a4_28 ?_
  refine lv_ldcw C.1 C.2.1 C.2.2.2.1 (C.2.2.2.2.1 _ kw_925) dJ6_bitCount_0f7a4_29 ?_
  refine lv_iand C.1 C.2.1 dJ6_bitCount_0f7a4_32 ?_
  refine lv_istore_n (lv' := [(0, .int ((x0 + ((x0.toUInt32 >>> ((4 : Int32).toUInt32 &&& Int32.toUInt32 31)).toInt32)) &&& (252645135 : Int32)))]) C.1 C.2.1 dJ6_bitCount_0f7a4_33 rfl hl (by decide) rfl (fun ls hl => ?_)
  refine lv_iload_n C.1 C.2.1 dJ6_bitCount_0f7a4_34 rfl (lv_at hl 0 rfl) ?_
  refine lv_iload_n C.1 C.2.1 dJ6_bitCount_0f7a4_35 rfl (lv_at hl 0 rfl) ?_
  refine lv_bipush C.1 C.2.1 dJ6_bitCount_0f7a4_36 bp_8 ?_
  refine lv_iushr C.1 C.2.1 dJ6_bitCount_0f7a4_38 rfl ?_
  refine lv_iadd C.1 C.2.1 dJ6_bitCount_0f7a4_39 ?_
  refine lv_istore_n (lv' := [(0, .int (((x0 + ((x0.toUInt32 >>> ((4 : Int32).toUInt32 &&& Int32.toUInt32 31)).toInt32)) &&& (252645135 : Int32)) + ((((x0 + ((x0.toUInt32 >>> ((4 : Int32).toUInt32 &&& Int32.toUInt32 31)).toInt32)) &&& (252645135 : Int32)).toUInt32 >>> ((8 : Int32).toUInt32 &&& Int32.toUInt32 31)).toInt32)))]) C.1 C.2.1 dJ6_bitCount_0f7a4_40 rfl hl (by decide) rfl (fun ls hl => ?_)
  exact kJ6_bitCount_0f7a4_41  C (((x0 + ((x0.toUInt32 >>> ((4 : Int32).toUInt32 &&& Int32.toUInt32 31)).toInt32)) &&& (252645135 : Int32)) + ((((x0 + ((x0.toUInt32 >>> ((4 : Int32).toUInt32 &&& Int32.toUInt32 31)).toInt32)) &&& (252645135 : Int32)).toUInt32 >>> ((8 : Int32).toUInt32 &&& Int32.toUInt32 31)).toInt32)) _ _ _  hW (lv_sub hl [0] rfl) hf

set_option maxRecDepth 100000 in
theorem cJ6_bitCount_0f7a4_ok {l : Launch} {G : Gv} {L : List Nat} {S : MS} {a0 : Int32} {q : Int32}  (hf : fJ6_bitCount_0f7a4 a0 S = some q) : Mt l yJ6_bitCount_0f7a4 cJ6_bitCount_0f7a4 1 (some .int) (1) G shX L S [.int a0] (some (.int q)) S := by
  refine m_enter (lv := [(0, .int a0)]) (plainFor_of_name (by decide)) (Nat.le_of_ble_eq_true rfl) rfl ?_
  intro p e s m below meth c A ls C hW hl
  unfold fJ6_bitCount_0f7a4 at hf
  refine lv_iload_n C.1 C.2.1 dJ6_bitCount_0f7a4_0 rfl (lv_at hl 0 rfl) ?_
  refine lv_iload_n C.1 C.2.1 dJ6_bitCount_0f7a4_1 rfl (lv_at hl 0 rfl) ?_
  refine lv_iconst C.1 C.2.1 dJ6_bitCount_0f7a4_2 ic_1 ?_
  refine lv_iushr C.1 C.2.1 dJ6_bitCount_0f7a4_3 rfl ?_
  refine lv_ldcw C.1 C.2.1 C.2.2.2.1 (C.2.2.2.2.1 _ kw_923) dJ6_bitCount_0f7a4_4 ?_
  refine lv_iand C.1 C.2.1 dJ6_bitCount_0f7a4_7 ?_
  refine lv_isub C.1 C.2.1 dJ6_bitCount_0f7a4_8 ?_
  refine lv_istore_n (lv' := [(0, .int (a0 - (((a0.toUInt32 >>> ((1 : Int32).toUInt32 &&& Int32.toUInt32 31)).toInt32) &&& (1431655765 : Int32))))]) C.1 C.2.1 dJ6_bitCount_0f7a4_9 rfl hl (by decide) rfl (fun ls hl => ?_)
  refine lv_iload_n C.1 C.2.1 dJ6_bitCount_0f7a4_10 rfl (lv_at hl 0 rfl) ?_
  refine lv_ldcw C.1 C.2.1 C.2.2.2.1 (C.2.2.2.2.1 _ kw_924) dJ6_bitCount_0f7a4_11 ?_
  refine lv_iand C.1 C.2.1 dJ6_bitCount_0f7a4_14 ?_
  refine lv_iload_n C.1 C.2.1 dJ6_bitCount_0f7a4_15 rfl (lv_at hl 0 rfl) ?_
  refine lv_iconst C.1 C.2.1 dJ6_bitCount_0f7a4_16 ic_2 ?_
  refine lv_iushr C.1 C.2.1 dJ6_bitCount_0f7a4_17 rfl ?_
  refine lv_ldcw C.1 C.2.1 C.2.2.2.1 (C.2.2.2.2.1 _ kw_924) dJ6_bitCount_0f7a4_18 ?_
  refine lv_iand C.1 C.2.1 dJ6_bitCount_0f7a4_21 ?_
  refine lv_iadd C.1 C.2.1 dJ6_bitCount_0f7a4_22 ?_
  refine lv_istore_n (lv' := [(0, .int (((a0 - (((a0.toUInt32 >>> ((1 : Int32).toUInt32 &&& Int32.toUInt32 31)).toInt32) &&& (1431655765 : Int32))) &&& (858993459 : Int32)) + ((((a0 - (((a0.toUInt32 >>> ((1 : Int32).toUInt32 &&& Int32.toUInt32 31)).toInt32) &&& (1431655765 : Int32))).toUInt32 >>> ((2 : Int32).toUInt32 &&& Int32.toUInt32 31)).toInt32) &&& (858993459 : Int32))))]) C.1 C.2.1 dJ6_bitCount_0f7a4_23 rfl hl (by decide) rfl (fun ls hl => ?_)
  exact kJ6_bitCount_0f7a4_24  C (((a0 - (((a0.toUInt32 >>> ((1 : Int32).toUInt32 &&& Int32.toUInt32 31)).toInt32) &&& (1431655765 : Int32))) &&& (858993459 : Int32)) + ((((a0 - (((a0.toUInt32 >>> ((1 : Int32).toUInt32 &&& Int32.toUInt32 31)).toInt32) &&& (1431655765 : Int32))).toUInt32 >>> ((2 : Int32).toUInt32 &&& Int32.toUInt32 31)).toInt32) &&& (858993459 : Int32))) _ _ _  hW (lv_sub hl [0] rfl) hf

def fJ9_floorMod_7cf53 (a0 : Int32) (a1 : Int32) (S : MS) : Option Int32 := (if a1 = (0 : Int32) then none else (if (0 : Int32) ≤ (a0 ^^^ a1) then some (a0 - (a0 / a1) * a1) else (if a0 - (a0 / a1) * a1 = (0 : Int32) then some (a0 - (a0 / a1) * a1) else some ((a0 - (a0 / a1) * a1) + a1))))
set_option maxRecDepth 100000 in
theorem cJ9_floorMod_7cf53_ok {l : Launch} {G : Gv} {L : List Nat} {S : MS} {a0 : Int32} {a1 : Int32} {q : Int32}  (hf : fJ9_floorMod_7cf53 a0 a1 S = some q) : Mt l yJ9_floorMod_7cf53 cJ9_floorMod_7cf53 3 (some .int) (1) G shX L S [.int a0, .int a1] (some (.int q)) S := by
  refine m_enter (lv := [(0, .int a0), (1, .int a1)]) (by decide +kernel) (Nat.le_of_ble_eq_true rfl) rfl ?_
  intro p e s m below meth c A ls C hW hl
  unfold fJ9_floorMod_7cf53 at hf
  refine lv_iload_n C.1 C.2.1 dJ9_floorMod_7cf53_0 rfl (lv_at hl 0 rfl) ?_
  refine lv_iload_n C.1 C.2.1 dJ9_floorMod_7cf53_1 rfl (lv_at hl 1 rfl) ?_
  obtain ⟨hz1, hf⟩ := nz hf
  refine lv_irem C.1 C.2.1 dJ9_floorMod_7cf53_2 hz1 ?_
  refine lv_istore_n (lv' := [(2, .int (a0 - (a0 / a1) * a1)), (0, .int a0), (1, .int a1)]) C.1 C.2.1 dJ9_floorMod_7cf53_3 rfl hl (by decide) rfl (fun ls hl => ?_)
  refine lv_iload_n C.1 C.2.1 dJ9_floorMod_7cf53_4 rfl (lv_at hl 1 rfl) ?_
  refine lv_iload_n C.1 C.2.1 dJ9_floorMod_7cf53_5 rfl (lv_at hl 2 rfl) ?_
  refine lv_ixor C.1 C.2.1 dJ9_floorMod_7cf53_6 ?_
  refine lv_if_ge (tgt := 18) C.1 C.2.1 dJ9_floorMod_7cf53_7 rfl (fun c2 => ?_) (fun c2 => ?_)
  · have hf := (if_pos c2).symm.trans hf
    refine lv_iload_n C.1 C.2.1 dJ9_floorMod_7cf53_18 rfl (lv_at hl 0 rfl) ?_
    cases hf
    exact m_iret C hW dJ9_floorMod_7cf53_19
  · have hf := (if_neg c2).symm.trans hf
    refine lv_iload_n C.1 C.2.1 dJ9_floorMod_7cf53_10 rfl (lv_at hl 0 rfl) ?_
    refine lv_if_eq (tgt := 18) C.1 C.2.1 dJ9_floorMod_7cf53_11 rfl (fun c3 => ?_) (fun c3 => ?_)
    · have hf := (if_pos c3).symm.trans hf
      refine lv_iload_n C.1 C.2.1 dJ9_floorMod_7cf53_18 rfl (lv_at hl 0 rfl) ?_
      cases hf
      exact m_iret C hW dJ9_floorMod_7cf53_19
    · have hf := (if_neg c3).symm.trans hf
      refine lv_iload_n C.1 C.2.1 dJ9_floorMod_7cf53_14 rfl (lv_at hl 0 rfl) ?_
      refine lv_iload_n C.1 C.2.1 dJ9_floorMod_7cf53_15 rfl (lv_at hl 2 rfl) ?_
      refine lv_iadd C.1 C.2.1 dJ9_floorMod_7cf53_16 ?_
      cases hf
      exact m_iret C hW dJ9_floorMod_7cf53_17

