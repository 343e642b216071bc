def fX10_text_88  (x0 : Nat) (S : MS) : Option (Int32 × MS) := (if gI S x0 13 = (0 : Int32) then (fX10_startAnew  x0 (pR (pR S x0 1 (gR S x0 2)) x0 2 (gR S x0 1))).bind fun q4 => some (gI q4 (gR q4 x0 3) 18, q4) else some ((-1 : Int32), S))
def fX10_text_66  (x0 : Nat) (S : MS) : Option (Int32 × MS) := fX10_text_88  x0 (pI (pI S x0 13 (gI S (gR S x0 3) 16)) x0 14 (gI (pI S x0 13 (gI S (gR S x0 3) 16)) (gR (pI S x0 13 (gI S (gR S x0 3) 16)) x0 3) 17))
def fX10_text_38  : Nat → Nat → Int32 → Int32 → MS → Option (Int32 × MS)
  | 0, _, _, _, _ => none
  | n + 1, x0, x1, x2, S => (if x1 ≤ x2 then fX10_text_66  x0 S else (fX5_hasMore  (gR S x0 3) S).bind fun q11 => (if q11 = (0 : Int32) then fX10_text_66  x0 S else (fX5_readLine  (gR S x0 3) S).bind fun q15 => (fX10_text_38  n) x0 x1 (x2 + (1 : Int32)) q15))
def fX10_text (a0 : Nat) (a1 : Int32) (S : MS) : Option (Int32 × MS) := (if a1 < (0 : Int32) then some ((-2 : Int32), S) else (if a1 ≤ (gI S a0 12) then (fX5_begin  (gR (pI S a0 12 (0 : Int32)) a0 3) (gR (pI S a0 12 (0 : Int32)) a0 0) a1 (gR (pI S a0 12 (0 : Int32)) a0 2) (pI S a0 12 (0 : Int32))).bind fun q22 => fX10_text_38  1000 a0 a1 (0 : Int32) q22 else some ((-2 : Int32), S)))
set_option maxRecDepth 100000 in
theorem kX10_text_88 {p : Program} {l : Launch} {e : Env} {s : State} {m : MethodId} {av : Array Value} {below : List Frame} {meth : Method} {c : Code} {A : Nat → Prop} {G : Gv} {L : List Nat} {q : (Int32 × MS)}  (C : mC p s m av meth c cX10_text RX10 3 (some .int)) : ∀ (x0 : Nat) (S : MS) (H : Heap) (locs : List Loc) (ls : Array Slot), (x0 < shX.1 ∧ shX.2.1 x0 = 10) → mW G shX L S A s H locs → lv_has ls 3 [(0, .ref (ad L x0))] → fX10_text_88  x0 S = some q → W p l e (rmd (8)) s m av below meth c H locs 0 0 (MQ below (mQ G shX L q.2 (some (.int q.1)) A) av s 0 0 A) (F0 m 88 ls []) := by
  intro x0 S H locs ls hx0 hW hl hf
  unfold fX10_text_88 at hf
  refine lv_aload_n C.1 C.2.1 dX10_text_88 rfl (lv_at hl 0 rfl) ?_
  refine m_geti C hW hx0 flX10_113 dX10_text_89 ?_
  refine lv_if_eq (tgt := 97) C.1 C.2.1 dX10_text_92 rfl (fun c1 => ?_) (fun c1 => ?_)
  · have hf := (if_pos c1).symm.trans hf
    refine lv_aload_n C.1 C.2.1 dX10_text_97 rfl (lv_at hl 0 rfl) ?_
    refine m_getr C hW hx0 flX10_16 (by decide) dX10_text_98 (fun hk2 => ?_)
    refine lv_astore_n (lv' := [(2, .ref (ad L (gR S x0 1))), (0, .ref (ad L x0))]) C.1 C.2.1 dX10_text_101 rfl hl (by decide) rfl (fun ls hl => ?_)
    refine lv_aload_n C.1 C.2.1 dX10_text_102 rfl (lv_at hl 1 rfl) ?_
    refine lv_aload_n C.1 C.2.1 dX10_text_103 rfl (lv_at hl 1 rfl) ?_
    refine m_getr C hW hx0 flX10_20 (by decide) dX10_text_104 (fun hk3 => ?_)
    refine m_putr C hW hx0 fpX10_16 (by decide) (Or.inl ⟨_, rfl⟩) hk3 dX10_text_107 (fun H locs hW => ?_)
    refine lv_aload_n C.1 C.2.1 dX10_text_110 rfl (lv_at hl 1 rfl) ?_
    refine lv_aload_n C.1 C.2.1 dX10_text_111 rfl (lv_at hl 0 rfl) ?_
    refine m_putr C hW hx0 fpX10_20 (by decide) (Or.inl ⟨_, rfl⟩) hk2 dX10_text_112 (fun H locs hW => ?_)
    refine lv_aload_n C.1 C.2.1 dX10_text_115 rfl (lv_at hl 1 rfl) ?_
    obtain ⟨q4, h5, hf⟩ := bd hf
    refine m_callV (As := []) (rest := []) C hW hx0 (cX10_startAnew_ok  hx0 h5) mlX10_89 (by decide) rfl hl.1 rfl (Nat.le_of_ble_eq_true rfl) (Nat.le_of_ble_eq_true rfl) (Nat.le_of_ble_eq_true rfl) dX10_text_116 (fun H locs hW => ?_)
    refine lv_aload_n C.1 C.2.1 dX10_text_119 rfl (lv_at hl 1 rfl) ?_
    refine m_getr C hW hx0 flX10_28 (by decide) dX10_text_120 (fun hk6 => ?_)
    refine m_geti C hW hk6 flX10_117 dX10_text_123 ?_
    cases hf
    exact m_iret C hW dX10_text_126
  · have hf := (if_neg c1).symm.trans hf
    refine lv_iconst C.1 C.2.1 dX10_text_95 ic_m1 ?_
    cases hf
    exact m_iret C hW dX10_text_96

set_option maxRecDepth 100000 in
theorem kX10_text_66 {p : Program} {l : Launch} {e : Env} {s : State} {m : MethodId} {av : Array Value} {below : List Frame} {meth : Method} {c : Code} {A : Nat → Prop} {G : Gv} {L : List Nat} {q : (Int32 × MS)}  (C : mC p s m av meth c cX10_text RX10 3 (some .int)) : ∀ (x0 : Nat) (S : MS) (H : Heap) (locs : List Loc) (ls : Array Slot), (x0 < shX.1 ∧ shX.2.1 x0 = 10) → mW G shX L S A s H locs → lv_has ls 3 [(0, .ref (ad L x0))] → fX10_text_66  x0 S = some q → W p l e (rmd (8)) s m av below meth c H locs 0 0 (MQ below (mQ G shX L q.2 (some (.int q.1)) A) av s 0 0 A) (F0 m 66 ls []) := by
  intro x0 S H locs ls hx0 hW hl hf
  unfold fX10_text_66 at hf
  refine lv_aload_n C.1 C.2.1 dX10_text_66 rfl (lv_at hl 0 rfl) ?_
  refine lv_aload_n C.1 C.2.1 dX10_text_67 rfl (lv_at hl 0 rfl) ?_
  refine m_getr C hW hx0 flX10_28 (by decide) dX10_text_68 (fun hk7 => ?_)
  refine m_geti C hW hk7 flX10_110 dX10_text_71 ?_
  refine m_puti C hW hx0 fpX10_113 dX10_text_74 (fun H locs hW => ?_)
  refine lv_aload_n C.1 C.2.1 dX10_text_77 rfl (lv_at hl 0 rfl) ?_
  refine lv_aload_n C.1 C.2.1 dX10_text_78 rfl (lv_at hl 0 rfl) ?_
  refine m_getr C hW hx0 flX10_28 (by decide) dX10_text_79 (fun hk8 => ?_)
  refine m_geti C hW hk8 flX10_116 dX10_text_82 ?_
  refine m_puti C hW hx0 fpX10_82 dX10_text_85 (fun H locs hW => ?_)
  exact kX10_text_88  C x0 _ _ _ _ hx0 hW (lv_sub hl [0] rfl) hf

set_option maxRecDepth 100000 in
theorem kX10_text_38 {p : Program} {l : Launch} {e : Env} {s : State} {m : MethodId} {av : Array Value} {below : List Frame} {meth : Method} {c : Code} {A : Nat → Prop} {G : Gv} {L : List Nat} {q : (Int32 × MS)}  (C : mC p s m av meth c cX10_text RX10 3 (some .int)) : ∀ (n : Nat) (x0 : Nat) (x1 : Int32) (x2 : Int32) (S : MS) (H : Heap) (locs : List Loc) (ls : Array Slot), (x0 < shX.1 ∧ shX.2.1 x0 = 10) → mW G shX L S A s H locs → lv_has ls 3 [(0, .ref (ad L x0)), (1, .int x1), (2, .int x2)] → fX10_text_38  n x0 x1 x2 S = some q → W p l e (rmd (8)) s m av below meth c H locs 0 0 (MQ below (mQ G shX L q.2 (some (.int q.1)) A) av s 0 0 A) (F0 m 38 ls []) := by
  intro n
  induction n with
  | zero =>
    intro x0 x1 x2 S H locs ls hx0 hW hl hf
    rw [fX10_text_38] at hf
    cases hf
  | succ n ih =>
    intro x0 x1 x2 S H locs ls hx0 hW hl hf
    rw [fX10_text_38] at hf
    refine lv_iload_n C.1 C.2.1 dX10_text_38 rfl (lv_at hl 2 rfl) ?_
    refine lv_iload_n C.1 C.2.1 dX10_text_39 rfl (lv_at hl 1 rfl) ?_
    refine lv_icmp_ge (tgt := 66) C.1 C.2.1 dX10_text_40 rfl (fun c9 => ?_) (fun c9 => ?_)
    · have hf := (if_pos c9).symm.trans hf
      exact kX10_text_66  C x0 _ _ _ _ hx0 hW (lv_sub hl [0] rfl) hf
    · have hf := (if_neg c9).symm.trans hf
      refine lv_aload_n C.1 C.2.1 dX10_text_43 rfl (lv_at hl 0 rfl) ?_
      refine m_getr C hW hx0 flX10_28 (by decide) dX10_text_44 (fun hk10 => ?_)
      obtain ⟨q11, h12, hf⟩ := bd hf
      refine m_callV (As := []) (rest := []) C hW hk10 (cX5_hasMore_ok  hk10 h12) mlX10_103 (by decide) rfl hl.1 rfl (Nat.le_of_ble_eq_true rfl) (Nat.le_of_ble_eq_true rfl) (Nat.le_of_ble_eq_true rfl) dX10_text_47 (fun H locs hW => ?_)
      refine lv_if_eq (tgt := 66) C.1 C.2.1 dX10_text_50 rfl (fun c13 => ?_) (fun c13 => ?_)
      · have hf := (if_pos c13).symm.trans hf
        exact kX10_text_66  C x0 _ _ _ _ hx0 hW (lv_sub hl [0] rfl) hf
      · have hf := (if_neg c13).symm.trans hf
        refine lv_aload_n C.1 C.2.1 dX10_text_53 rfl (lv_at hl 0 rfl) ?_
        refine m_getr C hW hx0 flX10_28 (by decide) dX10_text_54 (fun hk14 => ?_)
        obtain ⟨q15, h16, hf⟩ := bd hf
        refine m_callV (As := []) (rest := []) C hW hk14 (cX5_readLine_ok  hk14 h16) mlX10_107 (by decide) rfl hl.1 rfl (Nat.le_of_ble_eq_true rfl) (Nat.le_of_ble_eq_true rfl) (Nat.le_of_ble_eq_true rfl) dX10_text_57 (fun H locs hW => ?_)
        refine lv_iinc (v := x2 + (1 : Int32)) (lv' := [(2, .int (x2 + (1 : Int32))), (0, .ref (ad L x0)), (1, .int x1)]) C.1 C.2.1 dX10_text_60 hl (k := 2) rfl (congrArg (fun z => x2 + z) ic_1) (by decide) rfl (fun ls hl => ?_)
        refine lv_goto (tgt := 38) C.1 C.2.1 dX10_text_63 rfl ?_
        exact ih x0 x1 (x2 + (1 : Int32)) _ _ _ _ hx0 hW (lv_sub hl [1, 2, 0] rfl) hf

set_option maxRecDepth 100000 in
theorem cX10_text_ok {l : Launch} {G : Gv} {L : List Nat} {S : MS} {a0 : Nat} {a1 : Int32} {q : (Int32 × MS)} (ha0 : a0 < shX.1 ∧ shX.2.1 a0 = 10) (hf : fX10_text a0 a1 S = some q) : Mt l yX10_text cX10_text 3 (some .int) (8) G shX L S [.ref (ad L a0), .int a1] (some (.int q.1)) q.2 := by
  refine m_enter (lv := [(0, .ref (ad L a0)), (1, .int a1)]) (plainFor_of_name (by decide)) (Nat.le_of_ble_eq_true rfl) rfl ?_
  intro p e s m below meth c A ls C hW hl
  unfold fX10_text at hf
  refine lv_iload_n C.1 C.2.1 dX10_text_0 rfl (lv_at hl 1 rfl) ?_
  refine lv_if_lt (tgt := 12) C.1 C.2.1 dX10_text_1 rfl (fun c17 => ?_) (fun c17 => ?_)
  · have hf := (if_pos c17).symm.trans hf
    refine lv_bipush C.1 C.2.1 dX10_text_12 bp_m2 ?_
    cases hf
    exact m_iret C hW dX10_text_14
  · have hf := (if_neg c17).symm.trans hf
    refine lv_iload_n C.1 C.2.1 dX10_text_4 rfl (lv_at hl 1 rfl) ?_
    refine lv_aload_n C.1 C.2.1 dX10_text_5 rfl (lv_at hl 0 rfl) ?_
    refine m_geti C hW ha0 flX10_92 dX10_text_6 ?_
    refine lv_icmp_le (tgt := 15) C.1 C.2.1 dX10_text_9 rfl (fun c18 => ?_) (fun c18 => ?_)
    · have hf := (if_pos c18).symm.trans hf
      refine lv_aload_n C.1 C.2.1 dX10_text_15 rfl (lv_at hl 0 rfl) ?_
      refine lv_iconst C.1 C.2.1 dX10_text_16 ic_0 ?_
      refine m_puti C hW ha0 fpX10_92 dX10_text_17 (fun H locs hW => ?_)
      refine lv_aload_n C.1 C.2.1 dX10_text_20 rfl (lv_at hl 0 rfl) ?_
      refine m_getr C hW ha0 flX10_28 (by decide) dX10_text_21 (fun hk19 => ?_)
      refine lv_aload_n C.1 C.2.1 dX10_text_24 rfl (lv_at hl 0 rfl) ?_
      refine m_getr C hW ha0 flX10_9 (by decide) dX10_text_25 (fun hk20 => ?_)
      refine lv_iload_n C.1 C.2.1 dX10_text_28 rfl (lv_at hl 1 rfl) ?_
      refine lv_aload_n C.1 C.2.1 dX10_text_29 rfl (lv_at hl 0 rfl) ?_
      refine m_getr C hW ha0 flX10_20 (by decide) dX10_text_30 (fun hk21 => ?_)
      obtain ⟨q22, h23, hf⟩ := bd hf
      refine m_callV (As := [.ref (ad L (gR (pI S a0 12 (0 : Int32)) a0 0)), .int a1, .ref (ad L (gR (pI S a0 12 (0 : Int32)) a0 2))]) (rest := []) C hW hk19 (cX5_begin_ok  hk19 hk20 hk21 h23) mlX10_99 (by decide) rfl hl.1 rfl (Nat.le_of_ble_eq_true rfl) (Nat.le_of_ble_eq_true rfl) (Nat.le_of_ble_eq_true rfl) dX10_text_33 (fun H locs hW => ?_)
      refine lv_iconst C.1 C.2.1 dX10_text_36 ic_0 ?_
      refine lv_istore_n (lv' := [(2, .int (0 : Int32)), (0, .ref (ad L a0)), (1, .int a1)]) C.1 C.2.1 dX10_text_37 rfl hl (by decide) rfl (fun ls hl => ?_)
      exact kX10_text_38  C 1000 a0 a1 (0 : Int32) _ _ _ _ ha0 hW (lv_sub hl [1, 2, 0] rfl) hf
    · have hf := (if_neg c18).symm.trans hf
      refine lv_bipush C.1 C.2.1 dX10_text_12 bp_m2 ?_
      cases hf
      exact m_iret C hW dX10_text_14

