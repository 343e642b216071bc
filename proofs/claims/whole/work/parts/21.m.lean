def fX11_sign_150  (x0 : Nat) (S : MS) : Option MS := (if (gI S x0 33) < (256 : Int32) then some S else some (pI S x0 30 ((gI S x0 30) + (1 : Int32))))
def fX11_sign_128  (x0 : Nat) (x1 : Int32) (S : MS) : Option MS := (if x1 = (62 : Int32) then (fX11_here  x0 S).bind fun q3 => (if q3 = (61 : Int32) then fX11_sign_150  x0 (pI S x0 33 (258 : Int32)) else fX11_sign_150  x0 S) else fX11_sign_150  x0 S)
def fX11_sign_106  (x0 : Nat) (x1 : Int32) (S : MS) : Option MS := (if x1 = (60 : Int32) then (fX11_here  x0 S).bind fun q7 => (if q7 = (62 : Int32) then fX11_sign_128  x0 x1 (pI S x0 33 (257 : Int32)) else fX11_sign_128  x0 x1 S) else fX11_sign_128  x0 x1 S)
def fX11_sign_76  (x0 : Nat) (x1 : Int32) (y0 : Nat) (y1 : Int32) (S : MS) : Option MS := (if x1 = (60 : Int32) then (fX11_here  x0 (pI (pI S y0 32 y1) x0 33 x1)).bind fun q11 => (if q11 = (61 : Int32) then fX11_sign_106  x0 x1 (pI (pI (pI S y0 32 y1) x0 33 x1) x0 33 (256 : Int32)) else fX11_sign_106  x0 x1 (pI (pI S y0 32 y1) x0 33 x1)) else fX11_sign_106  x0 x1 (pI (pI S y0 32 y1) x0 33 x1))
def fX11_sign_71  (x0 : Nat) (x1 : Int32) (y0 : Nat) (S : MS) : Option MS := fX11_sign_76  x0 x1 y0 (3 : Int32) S
def fX11_sign (a0 : Nat) (a1 : Int32) (S : MS) : Option MS := (if a1 = (59 : Int32) then fX11_sign_71  a0 a1 a0 (pI S a0 30 ((gI S a0 30) + (1 : Int32))) else (if a1 = (40 : Int32) then fX11_sign_71  a0 a1 a0 (pI S a0 30 ((gI S a0 30) + (1 : Int32))) else (if a1 = (41 : Int32) then fX11_sign_71  a0 a1 a0 (pI S a0 30 ((gI S a0 30) + (1 : Int32))) else (if a1 = (43 : Int32) then fX11_sign_71  a0 a1 a0 (pI S a0 30 ((gI S a0 30) + (1 : Int32))) else (if a1 = (45 : Int32) then fX11_sign_71  a0 a1 a0 (pI S a0 30 ((gI S a0 30) + (1 : Int32))) else (if a1 = (42 : Int32) then fX11_sign_71  a0 a1 a0 (pI S a0 30 ((gI S a0 30) + (1 : Int32))) else (if a1 = (47 : Int32) then fX11_sign_71  a0 a1 a0 (pI S a0 30 ((gI S a0 30) + (1 : Int32))) else (if a1 = (60 : Int32) then fX11_sign_71  a0 a1 a0 (pI S a0 30 ((gI S a0 30) + (1 : Int32))) else (if a1 = (61 : Int32) then fX11_sign_71  a0 a1 a0 (pI S a0 30 ((gI S a0 30) + (1 : Int32))) else (if a1 = (62 : Int32) then fX11_sign_71  a0 a1 a0 (pI S a0 30 ((gI S a0 30) + (1 : Int32))) else fX11_sign_76  a0 a1 a0 (5 : Int32) (pI S a0 30 ((gI S a0 30) + (1 : Int32)))))))))))))
set_option maxRecDepth 100000 in
theorem kX11_sign_150 {p : Program} {l : Launch} {e : Env} {s : State} {m : MethodId} {av : Array Value} {below : List Frame} {meth : Method} {c : Code} {A : Nat → Prop} {G : Gv} {L : List Nat} {q : MS}  (C : mC p s m av meth c cX11_sign RX11 2 none) : ∀ (x0 : Nat) (S : MS) (H : Heap) (locs : List Loc) (ls : Array Slot), (x0 < shM.1 ∧ shM.2.1 x0 = 11) → mW G shM L S A s H locs → lv_has ls 2 [(0, .ref (ad L x0))] → fX11_sign_150  x0 S = some q → W p l e (rmd (2)) s m av below meth c H locs 0 0 (MQ below (mQ G shM L q none A) av s 0 0 A) (F0 m 150 ls []) := by
  intro x0 S H locs ls hx0 hW hl hf
  unfold fX11_sign_150 at hf
  refine lv_aload_n C.1 C.2.1 dX11_sign_150 rfl (lv_at hl 0 rfl) ?_
  refine m_geti C hW hx0 flX11_192 dX11_sign_151 ?_
  refine lv_sipush C.1 C.2.1 dX11_sign_154 sp_256 ?_
  refine lv_icmp_lt (tgt := 170) C.1 C.2.1 dX11_sign_157 rfl (fun c1 => ?_) (fun c1 => ?_)
  · have hf := (if_pos c1).symm.trans hf
    cases hf
    exact m_vret C hW dX11_sign_170
  · have hf := (if_neg c1).symm.trans hf
    refine lv_aload_n C.1 C.2.1 dX11_sign_160 rfl (lv_at hl 0 rfl) ?_
    refine lv_dup C.1 C.2.1 dX11_sign_161 rfl ?_
    refine m_geti C hW hx0 flX11_169 dX11_sign_162 ?_
    refine lv_iconst C.1 C.2.1 dX11_sign_165 ic_1 ?_
    refine lv_iadd C.1 C.2.1 dX11_sign_166 ?_
    refine m_puti C hW hx0 fpX11_169 dX11_sign_167 (fun H locs hW => ?_)
    cases hf
    exact m_vret C hW dX11_sign_170

set_option maxRecDepth 100000 in
theorem kX11_sign_128 {p : Program} {l : Launch} {e : Env} {s : State} {m : MethodId} {av : Array Value} {below : List Frame} {meth : Method} {c : Code} {A : Nat → Prop} {G : Gv} {L : List Nat} {q : MS}  (C : mC p s m av meth c cX11_sign RX11 2 none) : ∀ (x0 : Nat) (x1 : Int32) (S : MS) (H : Heap) (locs : List Loc) (ls : Array Slot), (x0 < shM.1 ∧ shM.2.1 x0 = 11) → mW G shM L S A s H locs → lv_has ls 2 [(0, .ref (ad L x0)), (1, .int x1)] → fX11_sign_128  x0 x1 S = some q → W p l e (rmd (2)) s m av below meth c H locs 0 0 (MQ below (mQ G shM L q none A) av s 0 0 A) (F0 m 128 ls []) := by
  intro x0 x1 S H locs ls hx0 hW hl hf
  unfold fX11_sign_128 at hf
  refine lv_iload_n C.1 C.2.1 dX11_sign_128 rfl (lv_at hl 1 rfl) ?_
  refine lv_bipush C.1 C.2.1 dX11_sign_129 bp_62 ?_
  refine lv_icmp_ne (tgt := 150) C.1 C.2.1 dX11_sign_131 rfl (fun c2 => ?_) (fun c2 => ?_)
  · have hf := (if_neg c2).symm.trans hf
    exact kX11_sign_150  C x0 _ _ _ _ hx0 hW (lv_sub hl [0] rfl) hf
  · have hf := (if_pos c2).symm.trans hf
    refine lv_aload_n C.1 C.2.1 dX11_sign_134 rfl (lv_at hl 0 rfl) ?_
    obtain ⟨q3, h4, hf⟩ := bd hf
    refine m_callV (As := []) (rest := []) C hW hx0 (cX11_here_ok  hx0 h4) mlX11_175 (by decide) rfl hl.1 rfl (Nat.le_of_ble_eq_true rfl) (Nat.le_of_ble_eq_true rfl) (Nat.le_of_ble_eq_true rfl) dX11_sign_135 (fun H locs hW => ?_)
    refine lv_bipush C.1 C.2.1 dX11_sign_138 bp_61 ?_
    refine lv_icmp_ne (tgt := 150) C.1 C.2.1 dX11_sign_140 rfl (fun c5 => ?_) (fun c5 => ?_)
    · have hf := (if_neg c5).symm.trans hf
      exact kX11_sign_150  C x0 _ _ _ _ hx0 hW (lv_sub hl [0] rfl) hf
    · have hf := (if_pos c5).symm.trans hf
      refine lv_aload_n C.1 C.2.1 dX11_sign_143 rfl (lv_at hl 0 rfl) ?_
      refine lv_sipush C.1 C.2.1 dX11_sign_144 sp_258 ?_
      refine m_puti C hW hx0 fpX11_192 dX11_sign_147 (fun H locs hW => ?_)
      exact kX11_sign_150  C x0 _ _ _ _ hx0 hW (lv_sub hl [0] rfl) hf

set_option maxRecDepth 100000 in
theorem kX11_sign_106 {p : Program} {l : Launch} {e : Env} {s : State} {m : MethodId} {av : Array Value} {below : List Frame} {meth : Method} {c : Code} {A : Nat → Prop} {G : Gv} {L : List Nat} {q : MS}  (C : mC p s m av meth c cX11_sign RX11 2 none) : ∀ (x0 : Nat) (x1 : Int32) (S : MS) (H : Heap) (locs : List Loc) (ls : Array Slot), (x0 < shM.1 ∧ shM.2.1 x0 = 11) → mW G shM L S A s H locs → lv_has ls 2 [(0, .ref (ad L x0)), (1, .int x1)] → fX11_sign_106  x0 x1 S = some q → W p l e (rmd (2)) s m av below meth c H locs 0 0 (MQ below (mQ G shM L q none A) av s 0 0 A) (F0 m 106 ls []) := by
  intro x0 x1 S H locs ls hx0 hW hl hf
  unfold fX11_sign_106 at hf
  refine lv_iload_n C.1 C.2.1 dX11_sign_106 rfl (lv_at hl 1 rfl) ?_
  refine lv_bipush C.1 C.2.1 dX11_sign_107 bp_60 ?_
  refine lv_icmp_ne (tgt := 128) C.1 C.2.1 dX11_sign_109 rfl (fun c6 => ?_) (fun c6 => ?_)
  · have hf := (if_neg c6).symm.trans hf
    exact kX11_sign_128  C x0 x1 _ _ _ _ hx0 hW (lv_sub hl [0, 1] rfl) hf
  · have hf := (if_pos c6).symm.trans hf
    refine lv_aload_n C.1 C.2.1 dX11_sign_112 rfl (lv_at hl 0 rfl) ?_
    obtain ⟨q7, h8, hf⟩ := bd hf
    refine m_callV (As := []) (rest := []) C hW hx0 (cX11_here_ok  hx0 h8) mlX11_175 (by decide) rfl hl.1 rfl (Nat.le_of_ble_eq_true rfl) (Nat.le_of_ble_eq_true rfl) (Nat.le_of_ble_eq_true rfl) dX11_sign_113 (fun H locs hW => ?_)
    refine lv_bipush C.1 C.2.1 dX11_sign_116 bp_62 ?_
    refine lv_icmp_ne (tgt := 128) C.1 C.2.1 dX11_sign_118 rfl (fun c9 => ?_) (fun c9 => ?_)
    · have hf := (if_neg c9).symm.trans hf
      exact kX11_sign_128  C x0 x1 _ _ _ _ hx0 hW (lv_sub hl [0, 1] rfl) hf
    · have hf := (if_pos c9).symm.trans hf
      refine lv_aload_n C.1 C.2.1 dX11_sign_121 rfl (lv_at hl 0 rfl) ?_
      refine lv_sipush C.1 C.2.1 dX11_sign_122 sp_257 ?_
      refine m_puti C hW hx0 fpX11_192 dX11_sign_125 (fun H locs hW => ?_)
      exact kX11_sign_128  C x0 x1 _ _ _ _ hx0 hW (lv_sub hl [0, 1] rfl) hf

set_option maxRecDepth 100000 in
theorem kX11_sign_76 {p : Program} {l : Launch} {e : Env} {s : State} {m : MethodId} {av : Array Value} {below : List Frame} {meth : Method} {c : Code} {A : Nat → Prop} {G : Gv} {L : List Nat} {q : MS}  (C : mC p s m av meth c cX11_sign RX11 2 none) : ∀ (x0 : Nat) (x1 : Int32) (y0 : Nat) (y1 : Int32) (S : MS) (H : Heap) (locs : List Loc) (ls : Array Slot), (x0 < shM.1 ∧ shM.2.1 x0 = 11) → (y0 < shM.1 ∧ shM.2.1 y0 = 11) → mW G shM L S A s H locs → lv_has ls 2 [(0, .ref (ad L x0)), (1, .int x1)] → fX11_sign_76  x0 x1 y0 y1 S = some q → W p l e (rmd (2)) s m av below meth c H locs 0 0 (MQ below (mQ G shM L q none A) av s 0 0 A) (F0 m 76 ls [.int y1, .ref (ad L y0)]) := by
  intro x0 x1 y0 y1 S H locs ls hx0 hy0 hW hl hf
  unfold fX11_sign_76 at hf
  refine m_puti C hW hy0 fpX11_182 dX11_sign_76 (fun H locs hW => ?_)
  refine lv_aload_n C.1 C.2.1 dX11_sign_79 rfl (lv_at hl 0 rfl) ?_
  refine lv_iload_n C.1 C.2.1 dX11_sign_80 rfl (lv_at hl 1 rfl) ?_
  refine m_puti C hW hx0 fpX11_192 dX11_sign_81 (fun H locs hW => ?_)
  refine lv_iload_n C.1 C.2.1 dX11_sign_84 rfl (lv_at hl 1 rfl) ?_
  refine lv_bipush C.1 C.2.1 dX11_sign_85 bp_60 ?_
  refine lv_icmp_ne (tgt := 106) C.1 C.2.1 dX11_sign_87 rfl (fun c10 => ?_) (fun c10 => ?_)
  · have hf := (if_neg c10).symm.trans hf
    exact kX11_sign_106  C x0 x1 _ _ _ _ hx0 hW (lv_sub hl [0, 1] rfl) hf
  · have hf := (if_pos c10).symm.trans hf
    refine lv_aload_n C.1 C.2.1 dX11_sign_90 rfl (lv_at hl 0 rfl) ?_
    obtain ⟨q11, h12, hf⟩ := bd hf
    refine m_callV (As := []) (rest := []) C hW hx0 (cX11_here_ok  hx0 h12) mlX11_175 (by decide) rfl hl.1 rfl (Nat.le_of_ble_eq_true rfl) (Nat.le_of_ble_eq_true rfl) (Nat.le_of_ble_eq_true rfl) dX11_sign_91 (fun H locs hW => ?_)
    refine lv_bipush C.1 C.2.1 dX11_sign_94 bp_61 ?_
    refine lv_icmp_ne (tgt := 106) C.1 C.2.1 dX11_sign_96 rfl (fun c13 => ?_) (fun c13 => ?_)
    · have hf := (if_neg c13).symm.trans hf
      exact kX11_sign_106  C x0 x1 _ _ _ _ hx0 hW (lv_sub hl [0, 1] rfl) hf
    · have hf := (if_pos c13).symm.trans hf
      refine lv_aload_n C.1 C.2.1 dX11_sign_99 rfl (lv_at hl 0 rfl) ?_
      refine lv_sipush C.1 C.2.1 dX11_sign_100 sp_256 ?_
      refine m_puti C hW hx0 fpX11_192 dX11_sign_103 (fun H locs hW => ?_)
      exact kX11_sign_106  C x0 x1 _ _ _ _ hx0 hW (lv_sub hl [0, 1] rfl) hf

set_option maxRecDepth 100000 in
theorem kX11_sign_71 {p : Program} {l : Launch} {e : Env} {s : State} {m : MethodId} {av : Array Value} {below : List Frame} {meth : Method} {c : Code} {A : Nat → Prop} {G : Gv} {L : List Nat} {q : MS}  (C : mC p s m av meth c cX11_sign RX11 2 none) : ∀ (x0 : Nat) (x1 : Int32) (y0 : Nat) (S : MS) (H : Heap) (locs : List Loc) (ls : Array Slot), (x0 < shM.1 ∧ shM.2.1 x0 = 11) → (y0 < shM.1 ∧ shM.2.1 y0 = 11) → mW G shM L S A s H locs → lv_has ls 2 [(0, .ref (ad L x0)), (1, .int x1)] → fX11_sign_71  x0 x1 y0 S = some q → W p l e (rmd (2)) s m av below meth c H locs 0 0 (MQ below (mQ G shM L q none A) av s 0 0 A) (F0 m 71 ls [.ref (ad L y0)]) := by
  intro x0 x1 y0 S H locs ls hx0 hy0 hW hl hf
  unfold fX11_sign_71 at hf
  refine lv_iconst C.1 C.2.1 dX11_sign_71 ic_3 ?_
  refine lv_goto (tgt := 76) C.1 C.2.1 dX11_sign_72 rfl ?_
  exact kX11_sign_76  C x0 x1 y0 (3 : Int32) _ _ _ _ hx0 hy0 hW (lv_sub hl [0, 1] rfl) hf

set_option maxRecDepth 100000 in
theorem cX11_sign_ok {l : Launch} {G : Gv} {L : List Nat} {S : MS} {a0 : Nat} {a1 : Int32} {q : MS} (ha0 : a0 < shM.1 ∧ shM.2.1 a0 = 11) (hf : fX11_sign a0 a1 S = some q) : Mt l yX11_sign cX11_sign 2 none (2) G shM L S [.ref (ad L a0), .int a1] none q := by
  refine m_enter (lv := [(0, .ref (ad L a0)), (1, .int a1)]) (plainFor_of_name (by decide)) (Nat.le_of_ble_eq_true rfl) rfl ?_
  intro p e s m below meth c A ls C hW hl
  unfold fX11_sign at hf
  refine lv_aload_n C.1 C.2.1 dX11_sign_0 rfl (lv_at hl 0 rfl) ?_
  refine lv_dup C.1 C.2.1 dX11_sign_1 rfl ?_
  refine m_geti C hW ha0 flX11_169 dX11_sign_2 ?_
  refine lv_iconst C.1 C.2.1 dX11_sign_5 ic_1 ?_
  refine lv_iadd C.1 C.2.1 dX11_sign_6 ?_
  refine m_puti C hW ha0 fpX11_169 dX11_sign_7 (fun H locs hW => ?_)
  refine lv_aload_n C.1 C.2.1 dX11_sign_10 rfl (lv_at hl 0 rfl) ?_
  refine lv_iload_n C.1 C.2.1 dX11_sign_11 rfl (lv_at hl 1 rfl) ?_
  refine lv_bipush C.1 C.2.1 dX11_sign_12 bp_59 ?_
  refine lv_icmp_eq (tgt := 71) C.1 C.2.1 dX11_sign_14 rfl (fun c14 => ?_) (fun c14 => ?_)
  · have hf := (if_pos c14).symm.trans hf
    exact kX11_sign_71  C a0 a1 a0 _ _ _ _ ha0 ha0 hW (lv_sub hl [0, 1] rfl) hf
  · have hf := (if_neg c14).symm.trans hf
    refine lv_iload_n C.1 C.2.1 dX11_sign_17 rfl (lv_at hl 1 rfl) ?_
    refine lv_bipush C.1 C.2.1 dX11_sign_18 bp_40 ?_
    refine lv_icmp_eq (tgt := 71) C.1 C.2.1 dX11_sign_20 rfl (fun c15 => ?_) (fun c15 => ?_)
    · have hf := (if_pos c15).symm.trans hf
      exact kX11_sign_71  C a0 a1 a0 _ _ _ _ ha0 ha0 hW (lv_sub hl [0, 1] rfl) hf
    · have hf := (if_neg c15).symm.trans hf
      refine lv_iload_n C.1 C.2.1 dX11_sign_23 rfl (lv_at hl 1 rfl) ?_
      refine lv_bipush C.1 C.2.1 dX11_sign_24 bp_41 ?_
      refine lv_icmp_eq (tgt := 71) C.1 C.2.1 dX11_sign_26 rfl (fun c16 => ?_) (fun c16 => ?_)
      · have hf := (if_pos c16).symm.trans hf
        exact kX11_sign_71  C a0 a1 a0 _ _ _ _ ha0 ha0 hW (lv_sub hl [0, 1] rfl) hf
      · have hf := (if_neg c16).symm.trans hf
        refine lv_iload_n C.1 C.2.1 dX11_sign_29 rfl (lv_at hl 1 rfl) ?_
        refine lv_bipush C.1 C.2.1 dX11_sign_30 bp_43 ?_
        refine lv_icmp_eq (tgt := 71) C.1 C.2.1 dX11_sign_32 rfl (fun c17 => ?_) (fun c17 => ?_)
        · have hf := (if_pos c17).symm.trans hf
          exact kX11_sign_71  C a0 a1 a0 _ _ _ _ ha0 ha0 hW (lv_sub hl [0, 1] rfl) hf
        · have hf := (if_neg c17).symm.trans hf
          refine lv_iload_n C.1 C.2.1 dX11_sign_35 rfl (lv_at hl 1 rfl) ?_
          refine lv_bipush C.1 C.2.1 dX11_sign_36 bp_45 ?_
          refine lv_icmp_eq (tgt := 71) C.1 C.2.1 dX11_sign_38 rfl (fun c18 => ?_) (fun c18 => ?_)
          · have hf := (if_pos c18).symm.trans hf
            exact kX11_sign_71  C a0 a1 a0 _ _ _ _ ha0 ha0 hW (lv_sub hl [0, 1] rfl) hf
          · have hf := (if_neg c18).symm.trans hf
            refine lv_iload_n C.1 C.2.1 dX11_sign_41 rfl (lv_at hl 1 rfl) ?_
            refine lv_bipush C.1 C.2.1 dX11_sign_42 bp_42 ?_
            refine lv_icmp_eq (tgt := 71) C.1 C.2.1 dX11_sign_44 rfl (fun c19 => ?_) (fun c19 => ?_)
            · have hf := (if_pos c19).symm.trans hf
              exact kX11_sign_71  C a0 a1 a0 _ _ _ _ ha0 ha0 hW (lv_sub hl [0, 1] rfl) hf
            · have hf := (if_neg c19).symm.trans hf
              refine lv_iload_n C.1 C.2.1 dX11_sign_47 rfl (lv_at hl 1 rfl) ?_
              refine lv_bipush C.1 C.2.1 dX11_sign_48 bp_47 ?_
              refine lv_icmp_eq (tgt := 71) C.1 C.2.1 dX11_sign_50 rfl (fun c20 => ?_) (fun c20 => ?_)
              · have hf := (if_pos c20).symm.trans hf
                exact kX11_sign_71  C a0 a1 a0 _ _ _ _ ha0 ha0 hW (lv_sub hl [0, 1] rfl) hf
              · have hf := (if_neg c20).symm.trans hf
                refine lv_iload_n C.1 C.2.1 dX11_sign_53 rfl (lv_at hl 1 rfl) ?_
                refine lv_bipush C.1 C.2.1 dX11_sign_54 bp_60 ?_
                refine lv_icmp_eq (tgt := 71) C.1 C.2.1 dX11_sign_56 rfl (fun c21 => ?_) (fun c21 => ?_)
                · have hf := (if_pos c21).symm.trans hf
                  exact kX11_sign_71  C a0 a1 a0 _ _ _ _ ha0 ha0 hW (lv_sub hl [0, 1] rfl) hf
                · have hf := (if_neg c21).symm.trans hf
                  refine lv_iload_n C.1 C.2.1 dX11_sign_59 rfl (lv_at hl 1 rfl) ?_
                  refine lv_bipush C.1 C.2.1 dX11_sign_60 bp_61 ?_
                  refine lv_icmp_eq (tgt := 71) C.1 C.2.1 dX11_sign_62 rfl (fun c22 => ?_) (fun c22 => ?_)
                  · have hf := (if_pos c22).symm.trans hf
                    exact kX11_sign_71  C a0 a1 a0 _ _ _ _ ha0 ha0 hW (lv_sub hl [0, 1] rfl) hf
                  · have hf := (if_neg c22).symm.trans hf
                    refine lv_iload_n C.1 C.2.1 dX11_sign_65 rfl (lv_at hl 1 rfl) ?_
                    refine lv_bipush C.1 C.2.1 dX11_sign_66 bp_62 ?_
                    refine lv_icmp_ne (tgt := 75) C.1 C.2.1 dX11_sign_68 rfl (fun c23 => ?_) (fun c23 => ?_)
                    · have hf := (if_neg c23).symm.trans hf
                      refine lv_iconst C.1 C.2.1 dX11_sign_75 ic_5 ?_
                      exact kX11_sign_76  C a0 a1 a0 (5 : Int32) _ _ _ _ ha0 ha0 hW (lv_sub hl [0, 1] rfl) hf
                    · have hf := (if_pos c23).symm.trans hf
                      exact kX11_sign_71  C a0 a1 a0 _ _ _ _ ha0 ha0 hW (lv_sub hl [0, 1] rfl) hf

def fX11_isFull (a0 : Nat) (a1 : Int32) (S : MS) : Option Int32 := (if a1 = (2 : Int32) then (fX11_fresher  a0 (4 : Int32) S).bind fun q2 => (if q2 = (8 : Int32) then some (1 : Int32) else some (0 : Int32)) else if a1 = (3 : Int32) then (fX11_fresher  a0 (5 : Int32) S).bind fun q6 => (if q6 = (6 : Int32) then some (1 : Int32) else some (0 : Int32)) else if a1 = (4 : Int32) then (fX11_fresher  a0 (6 : Int32) S).bind fun q10 => (if q10 = (4 : Int32) then some (1 : Int32) else some (0 : Int32)) else if a1 = (5 : Int32) then (fX11_fresher  a0 (7 : Int32) S).bind fun q14 => (if q14 = (12 : Int32) then some (1 : Int32) else some (0 : Int32)) else if a1 = (6 : Int32) then (fX11_fresher  a0 (8 : Int32) S).bind fun q18 => (if q18 = (8 : Int32) then some (1 : Int32) else some (0 : Int32)) else if a1 = (7 : Int32) then (fX11_fresher  a0 (9 : Int32) S).bind fun q22 => (if q22 = (4 : Int32) then some (1 : Int32) else some (0 : Int32)) else some (0 : Int32))
set_option maxRecDepth 100000 in
theorem cX11_isFull_ok {l : Launch} {G : Gv} {L : List Nat} {S : MS} {a0 : Nat} {a1 : Int32} {q : Int32} (ha0 : a0 < shM.1 ∧ shM.2.1 a0 = 11) (hf : fX11_isFull a0 a1 S = some q) : Mt l yX11_isFull cX11_isFull 2 (some .boolean) (2) G shM L S [.ref (ad L a0), .int a1] (some (.int q)) S := by
  refine m_enter (lv := [(0, .ref (ad L a0)), (1, .int a1)]) (plainFor_of_name (by decide)) (Nat.le_of_ble_eq_true rfl) rfl ?_
  intro p e s m below meth c A ls C hW hl
  unfold fX11_isFull at hf
  refine lv_iload_n C.1 C.2.1 dX11_isFull_0 rfl (lv_at hl 1 rfl) ?_
  by_cases c1 : a1 = (2 : Int32)
  · have hf := (if_pos c1).symm.trans hf
    refine lv_tableIn (tgt := 40) C.1 C.2.1 dX11_isFull_1 (by rw [c1]; decide) (by rw [c1]; decide) (by rw [c1]; rfl) rfl ?_
    refine lv_aload_n C.1 C.2.1 dX11_isFull_40 rfl (lv_at hl 0 rfl) ?_
    refine lv_iconst C.1 C.2.1 dX11_isFull_41 ic_4 ?_
    obtain ⟨q2, h3, hf⟩ := bd hf
    refine m_callV (As := [.int (4 : Int32)]) (rest := []) C hW ha0 (cX11_fresher_ok  ha0 h3) mlX11_233 (by decide) rfl hl.1 rfl (Nat.le_of_ble_eq_true rfl) (Nat.le_of_ble_eq_true rfl) (Nat.le_of_ble_eq_true rfl) dX11_isFull_42 (fun H locs hW => ?_)
    refine lv_bipush C.1 C.2.1 dX11_isFull_45 bp_8 ?_
    refine lv_icmp_ne (tgt := 54) C.1 C.2.1 dX11_isFull_47 rfl (fun c4 => ?_) (fun c4 => ?_)
    · have hf := (if_neg c4).symm.trans hf
      refine lv_iconst C.1 C.2.1 dX11_isFull_54 ic_0 ?_
      cases hf
      exact m_zret C hW rfl dX11_isFull_55
    · have hf := (if_pos c4).symm.trans hf
      refine lv_iconst C.1 C.2.1 dX11_isFull_50 ic_1 ?_
      refine lv_goto (tgt := 55) C.1 C.2.1 dX11_isFull_51 rfl ?_
      cases hf
      exact m_zret C hW rfl dX11_isFull_55
  have hf := (if_neg c1).symm.trans hf
  by_cases c5 : a1 = (3 : Int32)
  · have hf := (if_pos c5).symm.trans hf
    refine lv_tableIn (tgt := 56) C.1 C.2.1 dX11_isFull_1 (by rw [c5]; decide) (by rw [c5]; decide) (by rw [c5]; rfl) rfl ?_
    refine lv_aload_n C.1 C.2.1 dX11_isFull_56 rfl (lv_at hl 0 rfl) ?_
    refine lv_iconst C.1 C.2.1 dX11_isFull_57 ic_5 ?_
    obtain ⟨q6, h7, hf⟩ := bd hf
    refine m_callV (As := [.int (5 : Int32)]) (rest := []) C hW ha0 (cX11_fresher_ok  ha0 h7) mlX11_233 (by decide) rfl hl.1 rfl (Nat.le_of_ble_eq_true rfl) (Nat.le_of_ble_eq_true rfl) (Nat.le_of_ble_eq_true rfl) dX11_isFull_58 (fun H locs hW => ?_)
    refine lv_bipush C.1 C.2.1 dX11_isFull_61 bp_6 ?_
    refine lv_icmp_ne (tgt := 70) C.1 C.2.1 dX11_isFull_63 rfl (fun c8 => ?_) (fun c8 => ?_)
    · have hf := (if_neg c8).symm.trans hf
      refine lv_iconst C.1 C.2.1 dX11_isFull_70 ic_0 ?_
      cases hf
      exact m_zret C hW rfl dX11_isFull_71
    · have hf := (if_pos c8).symm.trans hf
      refine lv_iconst C.1 C.2.1 dX11_isFull_66 ic_1 ?_
      refine lv_goto (tgt := 71) C.1 C.2.1 dX11_isFull_67 rfl ?_
      cases hf
      exact m_zret C hW rfl dX11_isFull_71
  have hf := (if_neg c5).symm.trans hf
  by_cases c9 : a1 = (4 : Int32)
  · have hf := (if_pos c9).symm.trans hf
    refine lv_tableIn (tgt := 72) C.1 C.2.1 dX11_isFull_1 (by rw [c9]; decide) (by rw [c9]; decide) (by rw [c9]; rfl) rfl ?_
    refine lv_aload_n C.1 C.2.1 dX11_isFull_72 rfl (lv_at hl 0 rfl) ?_
    refine lv_bipush C.1 C.2.1 dX11_isFull_73 bp_6 ?_
    obtain ⟨q10, h11, hf⟩ := bd hf
    refine m_callV (As := [.int (6 : Int32)]) (rest := []) C hW ha0 (cX11_fresher_ok  ha0 h11) mlX11_233 (by decide) rfl hl.1 rfl (Nat.le_of_ble_eq_true rfl) (Nat.le_of_ble_eq_true rfl) (Nat.le_of_ble_eq_true rfl) dX11_isFull_75 (fun H locs hW => ?_)
    refine lv_iconst C.1 C.2.1 dX11_isFull_78 ic_4 ?_
    refine lv_icmp_ne (tgt := 86) C.1 C.2.1 dX11_isFull_79 rfl (fun c12 => ?_) (fun c12 => ?_)
    · have hf := (if_neg c12).symm.trans hf
      refine lv_iconst C.1 C.2.1 dX11_isFull_86 ic_0 ?_
      cases hf
      exact m_zret C hW rfl dX11_isFull_87
    · have hf := (if_pos c12).symm.trans hf
      refine lv_iconst C.1 C.2.1 dX11_isFull_82 ic_1 ?_
      refine lv_goto (tgt := 87) C.1 C.2.1 dX11_isFull_83 rfl ?_
      cases hf
      exact m_zret C hW rfl dX11_isFull_87
  have hf := (if_neg c9).symm.trans hf
  by_cases c13 : a1 = (5 : Int32)
  · have hf := (if_pos c13).symm.trans hf
    refine lv_tableIn (tgt := 88) C.1 C.2.1 dX11_isFull_1 (by rw [c13]; decide) (by rw [c13]; decide) (by rw [c13]; rfl) rfl ?_
    refine lv_aload_n C.1 C.2.1 dX11_isFull_88 rfl (lv_at hl 0 rfl) ?_
    refine lv_bipush C.1 C.2.1 dX11_isFull_89 bp_7 ?_
    obtain ⟨q14, h15, hf⟩ := bd hf
    refine m_callV (As := [.int (7 : Int32)]) (rest := []) C hW ha0 (cX11_fresher_ok  ha0 h15) mlX11_233 (by decide) rfl hl.1 rfl (Nat.le_of_ble_eq_true rfl) (Nat.le_of_ble_eq_true rfl) (Nat.le_of_ble_eq_true rfl) dX11_isFull_91 (fun H locs hW => ?_)
    refine lv_bipush C.1 C.2.1 dX11_isFull_94 bp_12 ?_
    refine lv_icmp_ne (tgt := 103) C.1 C.2.1 dX11_isFull_96 rfl (fun c16 => ?_) (fun c16 => ?_)
    · have hf := (if_neg c16).symm.trans hf
      refine lv_iconst C.1 C.2.1 dX11_isFull_103 ic_0 ?_
      cases hf
      exact m_zret C hW rfl dX11_isFull_104
    · have hf := (if_pos c16).symm.trans hf
      refine lv_iconst C.1 C.2.1 dX11_isFull_99 ic_1 ?_
      refine lv_goto (tgt := 104) C.1 C.2.1 dX11_isFull_100 rfl ?_
      cases hf
      exact m_zret C hW rfl dX11_isFull_104
  have hf := (if_neg c13).symm.trans hf
  by_cases c17 : a1 = (6 : Int32)
  · have hf := (if_pos c17).symm.trans hf
    refine lv_tableIn (tgt := 105) C.1 C.2.1 dX11_isFull_1 (by rw [c17]; decide) (by rw [c17]; decide) (by rw [c17]; rfl) rfl ?_
    refine lv_aload_n C.1 C.2.1 dX11_isFull_105 rfl (lv_at hl 0 rfl) ?_
    refine lv_bipush C.1 C.2.1 dX11_isFull_106 bp_8 ?_
    obtain ⟨q18, h19, hf⟩ := bd hf
    refine m_callV (As := [.int (8 : Int32)]) (rest := []) C hW ha0 (cX11_fresher_ok  ha0 h19) mlX11_233 (by decide) rfl hl.1 rfl (Nat.le_of_ble_eq_true rfl) (Nat.le_of_ble_eq_true rfl) (Nat.le_of_ble_eq_true rfl) dX11_isFull_108 (fun H locs hW => ?_)
    refine lv_bipush C.1 C.2.1 dX11_isFull_111 bp_8 ?_
    refine lv_icmp_ne (tgt := 120) C.1 C.2.1 dX11_isFull_113 rfl (fun c20 => ?_) (fun c20 => ?_)
    · have hf := (if_neg c20).symm.trans hf
      refine lv_iconst C.1 C.2.1 dX11_isFull_120 ic_0 ?_
      cases hf
      exact m_zret C hW rfl dX11_isFull_121
    · have hf := (if_pos c20).symm.trans hf
      refine lv_iconst C.1 C.2.1 dX11_isFull_116 ic_1 ?_
      refine lv_goto (tgt := 121) C.1 C.2.1 dX11_isFull_117 rfl ?_
      cases hf
      exact m_zret C hW rfl dX11_isFull_121
  have hf := (if_neg c17).symm.trans hf
  by_cases c21 : a1 = (7 : Int32)
  · have hf := (if_pos c21).symm.trans hf
    refine lv_tableIn (tgt := 122) C.1 C.2.1 dX11_isFull_1 (by rw [c21]; decide) (by rw [c21]; decide) (by rw [c21]; rfl) rfl ?_
    refine lv_aload_n C.1 C.2.1 dX11_isFull_122 rfl (lv_at hl 0 rfl) ?_
    refine lv_bipush C.1 C.2.1 dX11_isFull_123 bp_9 ?_
    obtain ⟨q22, h23, hf⟩ := bd hf
    refine m_callV (As := [.int (9 : Int32)]) (rest := []) C hW ha0 (cX11_fresher_ok  ha0 h23) mlX11_233 (by decide) rfl hl.1 rfl (Nat.le_of_ble_eq_true rfl) (Nat.le_of_ble_eq_true rfl) (Nat.le_of_ble_eq_true rfl) dX11_isFull_125 (fun H locs hW => ?_)
    refine lv_iconst C.1 C.2.1 dX11_isFull_128 ic_4 ?_
    refine lv_icmp_ne (tgt := 136) C.1 C.2.1 dX11_isFull_129 rfl (fun c24 => ?_) (fun c24 => ?_)
    · have hf := (if_neg c24).symm.trans hf
      refine lv_iconst C.1 C.2.1 dX11_isFull_136 ic_0 ?_
      cases hf
      exact m_zret C hW rfl dX11_isFull_137
    · have hf := (if_pos c24).symm.trans hf
      refine lv_iconst C.1 C.2.1 dX11_isFull_132 ic_1 ?_
      refine lv_goto (tgt := 137) C.1 C.2.1 dX11_isFull_133 rfl ?_
      cases hf
      exact m_zret C hW rfl dX11_isFull_137
  have hf := (if_neg c21).symm.trans hf
  by_cases ho25 : a1.toInt < 2 ∨ 7 < a1.toInt
  · refine lv_tableOut (tgt := 138) C.1 C.2.1 dX11_isFull_1 ho25 rfl ?_
    refine lv_iconst C.1 C.2.1 dX11_isFull_138 ic_0 ?_
    cases hf
    exact m_zret C hW rfl dX11_isFull_139
  · exfalso
    have := tn_e c1 (2) (by decide)
    have := tn_e c5 (3) (by decide)
    have := tn_e c9 (4) (by decide)
    have := tn_e c13 (5) (by decide)
    have := tn_e c17 (6) (by decide)
    have := tn_e c21 (7) (by decide)
    omega

def fX11_puts_38  (x0 : Nat) (S : MS) : Option MS := (fX11_fresher  x0 (12 : Int32) S).bind fun q1 => (fX11_reads  x0 (12 : Int32) (q1 + (1 : Int32)) S).bind fun q3 => some q3
def fX11_puts (a0 : Nat) (a1 : Int32) (a2 : Int32) (S : MS) : Option MS := (if gI S a0 34 = (0 : Int32) then (fX11_fresher  a0 (12 : Int32) S).bind fun q7 => (if bnd ((64 : Int32) + q7) (lnM (gR S a0 24)) = true then (fX11_fresher  a0 (12 : Int32) (pI S (gR S a0 24) (((64 : Int32) + q7).toNatClampNeg) a1)).bind fun q11 => (if bnd ((64 : Int32) + q11) (lnM (gR (pI S (gR S a0 24) (((64 : Int32) + q7).toNatClampNeg) a1) a0 25)) = true then fX11_puts_38  a0 (pI (pI S (gR S a0 24) (((64 : Int32) + q7).toNatClampNeg) a1) (gR (pI S (gR S a0 24) (((64 : Int32) + q7).toNatClampNeg) a1) a0 25) (((64 : Int32) + q11).toNatClampNeg) a2) else none) else none) else some S)
set_option maxRecDepth 100000 in
theorem kX11_puts_38 {p : Program} {l : Launch} {e : Env} {s : State} {m : MethodId} {av : Array Value} {below : List Frame} {meth : Method} {c : Code} {A : Nat → Prop} {G : Gv} {L : List Nat} {q : MS}  (C : mC p s m av meth c cX11_puts RX11 3 none) : ∀ (x0 : Nat) (S : MS) (H : Heap) (locs : List Loc) (ls : Array Slot), (x0 < shM.1 ∧ shM.2.1 x0 = 11) → mW G shM L S A s H locs → lv_has ls 3 [(0, .ref (ad L x0))] → fX11_puts_38  x0 S = some q → W p l e (rmd (2)) s m av below meth c H locs 0 0 (MQ below (mQ G shM L q none A) av s 0 0 A) (F0 m 38 ls []) := by
  intro x0 S H locs ls hx0 hW hl hf
  unfold fX11_puts_38 at hf
  refine lv_aload_n C.1 C.2.1 dX11_puts_38 rfl (lv_at hl 0 rfl) ?_
  refine lv_bipush C.1 C.2.1 dX11_puts_39 bp_12 ?_
  refine lv_aload_n C.1 C.2.1 dX11_puts_41 rfl (lv_at hl 0 rfl) ?_
  refine lv_bipush C.1 C.2.1 dX11_puts_42 bp_12 ?_
  obtain ⟨q1, h2, hf⟩ := bd hf
  refine m_callV (As := [.int (12 : Int32)]) (rest := [.int (12 : Int32), .ref (ad L x0)]) C hW hx0 (cX11_fresher_ok  hx0 h2) mlX11_233 (by decide) rfl hl.1 rfl (Nat.le_of_ble_eq_true rfl) (Nat.le_of_ble_eq_true rfl) (Nat.le_of_ble_eq_true rfl) dX11_puts_44 (fun H locs hW => ?_)
  refine lv_iconst C.1 C.2.1 dX11_puts_47 ic_1 ?_
  refine lv_iadd C.1 C.2.1 dX11_puts_48 ?_
  obtain ⟨q3, h4, hf⟩ := bd hf
  refine m_callV (As := [.int (12 : Int32), .int (q1 + (1 : Int32))]) (rest := []) C hW hx0 (cX11_reads_ok  hx0 h4) mlX11_253 (by decide) rfl hl.1 rfl (Nat.le_of_ble_eq_true rfl) (Nat.le_of_ble_eq_true rfl) (Nat.le_of_ble_eq_true rfl) dX11_puts_49 (fun H locs hW => ?_)
  cases hf
  exact m_vret C hW dX11_puts_52

set_option maxRecDepth 100000 in
theorem cX11_puts_ok {l : Launch} {G : Gv} {L : List Nat} {S : MS} {a0 : Nat} {a1 : Int32} {a2 : Int32} {q : MS} (ha0 : a0 < shM.1 ∧ shM.2.1 a0 = 11) (hf : fX11_puts a0 a1 a2 S = some q) : Mt l yX11_puts cX11_puts 3 none (2) G shM L S [.ref (ad L a0), .int a1, .int a2] none q := by
  refine m_enter (lv := [(0, .ref (ad L a0)), (1, .int a1), (2, .int a2)]) (plainFor_of_name (by decide)) (Nat.le_of_ble_eq_true rfl) rfl ?_
  intro p e s m below meth c A ls C hW hl
  unfold fX11_puts at hf
  refine lv_aload_n C.1 C.2.1 dX11_puts_0 rfl (lv_at hl 0 rfl) ?_
  refine m_geti C hW ha0 flX11_217 dX11_puts_1 ?_
  refine lv_if_eq (tgt := 8) C.1 C.2.1 dX11_puts_4 rfl (fun c5 => ?_) (fun c5 => ?_)
  · have hf := (if_pos c5).symm.trans hf
    refine lv_aload_n C.1 C.2.1 dX11_puts_8 rfl (lv_at hl 0 rfl) ?_
    refine m_getr C hW ha0 flX11_76 (by decide) dX11_puts_9 (fun hk6 => ?_)
    refine lv_bipush C.1 C.2.1 dX11_puts_12 bp_64 ?_
    refine lv_aload_n C.1 C.2.1 dX11_puts_14 rfl (lv_at hl 0 rfl) ?_
    refine lv_bipush C.1 C.2.1 dX11_puts_15 bp_12 ?_
    obtain ⟨q7, h8, hf⟩ := bd hf
    refine m_callV (As := [.int (12 : Int32)]) (rest := [.int (64 : Int32), .ref (ad L (gR S a0 24))]) C hW ha0 (cX11_fresher_ok  ha0 h8) mlX11_233 (by decide) rfl hl.1 rfl (Nat.le_of_ble_eq_true rfl) (Nat.le_of_ble_eq_true rfl) (Nat.le_of_ble_eq_true rfl) dX11_puts_17 (fun H locs hW => ?_)
    refine lv_iadd C.1 C.2.1 dX11_puts_20 ?_
    refine lv_iload_n C.1 C.2.1 dX11_puts_21 rfl (lv_at hl 1 rfl) ?_
    obtain ⟨hb9, hf⟩ := gd hf
    refine m_iast C hW hk6 hb9 dX11_puts_22 (fun H locs hW => ?_)
    refine lv_aload_n C.1 C.2.1 dX11_puts_23 rfl (lv_at hl 0 rfl) ?_
    refine m_getr C hW ha0 flX11_79 (by decide) dX11_puts_24 (fun hk10 => ?_)
    refine lv_bipush C.1 C.2.1 dX11_puts_27 bp_64 ?_
    refine lv_aload_n C.1 C.2.1 dX11_puts_29 rfl (lv_at hl 0 rfl) ?_
    refine lv_bipush C.1 C.2.1 dX11_puts_30 bp_12 ?_
    obtain ⟨q11, h12, hf⟩ := bd hf
    refine m_callV (As := [.int (12 : Int32)]) (rest := [.int (64 : Int32), .ref (ad L (gR (pI S (gR S a0 24) (((64 : Int32) + q7).toNatClampNeg) a1) a0 25))]) C hW ha0 (cX11_fresher_ok  ha0 h12) mlX11_233 (by decide) rfl hl.1 rfl (Nat.le_of_ble_eq_true rfl) (Nat.le_of_ble_eq_true rfl) (Nat.le_of_ble_eq_true rfl) dX11_puts_32 (fun H locs hW => ?_)
    refine lv_iadd C.1 C.2.1 dX11_puts_35 ?_
    refine lv_iload_n C.1 C.2.1 dX11_puts_36 rfl (lv_at hl 2 rfl) ?_
    obtain ⟨hb13, hf⟩ := gd hf
    refine m_iast C hW hk10 hb13 dX11_puts_37 (fun H locs hW => ?_)
    exact kX11_puts_38  C a0 _ _ _ _ ha0 hW (lv_sub hl [0] rfl) hf
  · have hf := (if_neg c5).symm.trans hf
    cases hf
    exact m_vret C hW dX11_puts_7

def fX11_knot (a0 : Nat) (S : MS) : Option MS := (if gI S a0 34 = (0 : Int32) then (if gI S a0 39 = (64 : Int32) then (fX11_wrong  a0 (2 : Int32) S).bind fun q3 => some q3 else some (pI S a0 39 ((gI S a0 39) + (1 : Int32)))) else some S)
set_option maxRecDepth 100000 in
theorem cX11_knot_ok {l : Launch} {G : Gv} {L : List Nat} {S : MS} {a0 : Nat} {q : MS} (ha0 : a0 < shM.1 ∧ shM.2.1 a0 = 11) (hf : fX11_knot a0 S = some q) : Mt l yX11_knot cX11_knot 1 none (2) G shM L S [.ref (ad L a0)] none q := by
  refine m_enter (lv := [(0, .ref (ad L a0))]) (plainFor_of_name (by decide)) (Nat.le_of_ble_eq_true rfl) rfl ?_
  intro p e s m below meth c A ls C hW hl
  unfold fX11_knot at hf
  refine lv_aload_n C.1 C.2.1 dX11_knot_0 rfl (lv_at hl 0 rfl) ?_
  refine m_geti C hW ha0 flX11_217 dX11_knot_1 ?_
  refine lv_if_eq (tgt := 8) C.1 C.2.1 dX11_knot_4 rfl (fun c1 => ?_) (fun c1 => ?_)
  · have hf := (if_pos c1).symm.trans hf
    refine lv_aload_n C.1 C.2.1 dX11_knot_8 rfl (lv_at hl 0 rfl) ?_
    refine m_geti C hW ha0 flX11_285 dX11_knot_9 ?_
    refine lv_bipush C.1 C.2.1 dX11_knot_12 bp_64 ?_
    refine lv_icmp_ne (tgt := 25) C.1 C.2.1 dX11_knot_14 rfl (fun c2 => ?_) (fun c2 => ?_)
    · have hf := (if_neg c2).symm.trans hf
      refine lv_aload_n C.1 C.2.1 dX11_knot_25 rfl (lv_at hl 0 rfl) ?_
      refine lv_dup C.1 C.2.1 dX11_knot_26 rfl ?_
      refine m_geti C hW ha0 flX11_285 dX11_knot_27 ?_
      refine lv_iconst C.1 C.2.1 dX11_knot_30 ic_1 ?_
      refine lv_iadd C.1 C.2.1 dX11_knot_31 ?_
      refine m_puti C hW ha0 fpX11_285 dX11_knot_32 (fun H locs hW => ?_)
      cases hf
      exact m_vret C hW dX11_knot_35
    · have hf := (if_pos c2).symm.trans hf
      refine lv_aload_n C.1 C.2.1 dX11_knot_17 rfl (lv_at hl 0 rfl) ?_
      refine lv_iconst C.1 C.2.1 dX11_knot_18 ic_2 ?_
      obtain ⟨q3, h4, hf⟩ := bd hf
      refine m_callV (As := [.int (2 : Int32)]) (rest := []) C hW ha0 (cX11_wrong_ok  ha0 h4) mlX11_226 (by decide) rfl hl.1 rfl (Nat.le_of_ble_eq_true rfl) (Nat.le_of_ble_eq_true rfl) (Nat.le_of_ble_eq_true rfl) dX11_knot_19 (fun H locs hW => ?_)
      refine lv_goto (tgt := 35) C.1 C.2.1 dX11_knot_22 rfl ?_
      cases hf
      exact m_vret C hW dX11_knot_35
  · have hf := (if_neg c1).symm.trans hf
    cases hf
    exact m_vret C hW dX11_knot_7

def fX11_named (a0 : Nat) (a1 : Int32) (a2 : Int32) (S : MS) : Option (Int32 × MS) := (if a1 = (0 : Int32) then (if bnd (6 : Int32) (lnM (gR (pI S a0 0 (0 : Int32)) a0 3)) = true then (fX11_found  (gR (pI S a0 0 (0 : Int32)) a0 8) (0 : Int32) (gI (pI S a0 0 (0 : Int32)) (gR (pI S a0 0 (0 : Int32)) a0 3) (6 : Int32).toNatClampNeg) a2 (pI S a0 0 (0 : Int32))).bind fun q5 => some (q5, pI S a0 0 (0 : Int32)) else none) else if a1 = (1 : Int32) then (if bnd (8 : Int32) (lnM (gR (pI S a0 0 (0 : Int32)) a0 3)) = true then (fX11_found  (gR (pI S a0 0 (0 : Int32)) a0 14) (0 : Int32) (gI (pI S a0 0 (0 : Int32)) (gR (pI S a0 0 (0 : Int32)) a0 3) (8 : Int32).toNatClampNeg) a2 (pI S a0 0 (0 : Int32))).bind fun q11 => some (q11, pI S a0 0 (0 : Int32)) else none) else if a1 = (2 : Int32) then (if bnd (9 : Int32) (lnM (gR (pI S a0 0 (0 : Int32)) a0 3)) = true then (fX11_found  (gR (pI S a0 0 (0 : Int32)) a0 19) (0 : Int32) (gI (pI S a0 0 (0 : Int32)) (gR (pI S a0 0 (0 : Int32)) a0 3) (9 : Int32).toNatClampNeg) a2 (pI S a0 0 (0 : Int32))).bind fun q17 => some (q17, pI S a0 0 (0 : Int32)) else none) else some ((-1 : Int32), pI S a0 0 (0 : Int32)))
set_option maxRecDepth 100000 in
theorem cX11_named_ok {l : Launch} {G : Gv} {L : List Nat} {S : MS} {a0 : Nat} {a1 : Int32} {a2 : Int32} {q : (Int32 × MS)} (ha0 : a0 < shM.1 ∧ shM.2.1 a0 = 11) (hf : fX11_named a0 a1 a2 S = some q) : Mt l yX11_named cX11_named 3 (some .int) (2) G shM L S [.ref (ad L a0), .int a1, .int a2] (some (.int q.1)) q.2 := by
  refine m_enter (lv := [(0, .ref (ad L a0)), (1, .int a1), (2, .int a2)]) (plainFor_of_name (by decide)) (Nat.le_of_ble_eq_true rfl) rfl ?_
  intro p e s m below meth c A ls C hW hl
  unfold fX11_named at hf
  refine lv_aload_n C.1 C.2.1 dX11_named_0 rfl (lv_at hl 0 rfl) ?_
  refine lv_iconst C.1 C.2.1 dX11_named_1 ic_0 ?_
  refine m_puti C hW ha0 fpX11_163 dX11_named_2 (fun H locs hW => ?_)
  refine lv_iload_n C.1 C.2.1 dX11_named_5 rfl (lv_at hl 1 rfl) ?_
  by_cases c1 : a1 = (0 : Int32)
  · have hf := (if_pos c1).symm.trans hf
    refine lv_tableIn (tgt := 32) C.1 C.2.1 dX11_named_6 (by rw [c1]; decide) (by rw [c1]; decide) (by rw [c1]; rfl) rfl ?_
    refine lv_aload_n C.1 C.2.1 dX11_named_32 rfl (lv_at hl 0 rfl) ?_
    refine m_getr C hW ha0 flX11_28 (by decide) dX11_named_33 (fun hk2 => ?_)
    refine lv_iconst C.1 C.2.1 dX11_named_36 ic_0 ?_
    refine lv_aload_n C.1 C.2.1 dX11_named_37 rfl (lv_at hl 0 rfl) ?_
    refine m_getr C hW ha0 flX11_13 (by decide) dX11_named_38 (fun hk3 => ?_)
    refine lv_bipush C.1 C.2.1 dX11_named_41 bp_6 ?_
    obtain ⟨hb4, hf⟩ := gd hf
    refine m_iald C hW hk3 hb4 dX11_named_43 ?_
    refine lv_iload_n C.1 C.2.1 dX11_named_44 rfl (lv_at hl 2 rfl) ?_
    obtain ⟨q5, h6, hf⟩ := bd hf
    refine m_callS (As := [.ref (ad L (gR (pI S a0 0 (0 : Int32)) a0 8)), .int (0 : Int32), .int (gI (pI S a0 0 (0 : Int32)) (gR (pI S a0 0 (0 : Int32)) a0 3) (6 : Int32).toNatClampNeg), .int a2]) (rest := []) C hW (cX11_found_ok  hk2 h6) mlX11_229 rfl hl.1 rfl (Nat.le_of_ble_eq_true rfl) (Nat.le_of_ble_eq_true rfl) (Nat.le_of_ble_eq_true rfl) dX11_named_45 (fun H locs hW => ?_)
    cases hf
    exact m_iret C hW dX11_named_48
  have hf := (if_neg c1).symm.trans hf
  by_cases c7 : a1 = (1 : Int32)
  · have hf := (if_pos c7).symm.trans hf
    refine lv_tableIn (tgt := 49) C.1 C.2.1 dX11_named_6 (by rw [c7]; decide) (by rw [c7]; decide) (by rw [c7]; rfl) rfl ?_
    refine lv_aload_n C.1 C.2.1 dX11_named_49 rfl (lv_at hl 0 rfl) ?_
    refine m_getr C hW ha0 flX11_46 (by decide) dX11_named_50 (fun hk8 => ?_)
    refine lv_iconst C.1 C.2.1 dX11_named_53 ic_0 ?_
    refine lv_aload_n C.1 C.2.1 dX11_named_54 rfl (lv_at hl 0 rfl) ?_
    refine m_getr C hW ha0 flX11_13 (by decide) dX11_named_55 (fun hk9 => ?_)
    refine lv_bipush C.1 C.2.1 dX11_named_58 bp_8 ?_
    obtain ⟨hb10, hf⟩ := gd hf
    refine m_iald C hW hk9 hb10 dX11_named_60 ?_
    refine lv_iload_n C.1 C.2.1 dX11_named_61 rfl (lv_at hl 2 rfl) ?_
    obtain ⟨q11, h12, hf⟩ := bd hf
    refine m_callS (As := [.ref (ad L (gR (pI S a0 0 (0 : Int32)) a0 14)), .int (0 : Int32), .int (gI (pI S a0 0 (0 : Int32)) (gR (pI S a0 0 (0 : Int32)) a0 3) (8 : Int32).toNatClampNeg), .int a2]) (rest := []) C hW (cX11_found_ok  hk8 h12) mlX11_229 rfl hl.1 rfl (Nat.le_of_ble_eq_true rfl) (Nat.le_of_ble_eq_true rfl) (Nat.le_of_ble_eq_true rfl) dX11_named_62 (fun H locs hW => ?_)
    cases hf
    exact m_iret C hW dX11_named_65
  have hf := (if_neg c7).symm.trans hf
  by_cases c13 : a1 = (2 : Int32)
  · have hf := (if_pos c13).symm.trans hf
    refine lv_tableIn (tgt := 66) C.1 C.2.1 dX11_named_6 (by rw [c13]; decide) (by rw [c13]; decide) (by rw [c13]; rfl) rfl ?_
    refine lv_aload_n C.1 C.2.1 dX11_named_66 rfl (lv_at hl 0 rfl) ?_
    refine m_getr C hW ha0 flX11_61 (by decide) dX11_named_67 (fun hk14 => ?_)
    refine lv_iconst C.1 C.2.1 dX11_named_70 ic_0 ?_
    refine lv_aload_n C.1 C.2.1 dX11_named_71 rfl (lv_at hl 0 rfl) ?_
    refine m_getr C hW ha0 flX11_13 (by decide) dX11_named_72 (fun hk15 => ?_)
    refine lv_bipush C.1 C.2.1 dX11_named_75 bp_9 ?_
    obtain ⟨hb16, hf⟩ := gd hf
    refine m_iald C hW hk15 hb16 dX11_named_77 ?_
    refine lv_iload_n C.1 C.2.1 dX11_named_78 rfl (lv_at hl 2 rfl) ?_
    obtain ⟨q17, h18, hf⟩ := bd hf
    refine m_callS (As := [.ref (ad L (gR (pI S a0 0 (0 : Int32)) a0 19)), .int (0 : Int32), .int (gI (pI S a0 0 (0 : Int32)) (gR (pI S a0 0 (0 : Int32)) a0 3) (9 : Int32).toNatClampNeg), .int a2]) (rest := []) C hW (cX11_found_ok  hk14 h18) mlX11_229 rfl hl.1 rfl (Nat.le_of_ble_eq_true rfl) (Nat.le_of_ble_eq_true rfl) (Nat.le_of_ble_eq_true rfl) dX11_named_79 (fun H locs hW => ?_)
    cases hf
    exact m_iret C hW dX11_named_82
  have hf := (if_neg c13).symm.trans hf
  by_cases ho19 : a1.toInt < 0 ∨ 2 < a1.toInt
  · refine lv_tableOut (tgt := 83) C.1 C.2.1 dX11_named_6 ho19 rfl ?_
    refine lv_iconst C.1 C.2.1 dX11_named_83 ic_m1 ?_
    cases hf
    exact m_iret C hW dX11_named_84
  · exfalso
    have := tn_e c1 (0) (by decide)
    have := tn_e c7 (1) (by decide)
    have := tn_e c13 (2) (by decide)
    omega

def fX11_works_407  (x0 : Nat) (x6 : Int64) (S : MS) : Option (Int32 × MS) := (if bnd ((gI S x0 42) - (1 : Int32)) (lnM (gR S x0 41)) = true then (if (0 : Int32) < (lg_cmp x6 (1000000000000 : Int64)) then some ((0 : Int32), pJ S (gR S x0 41) (((gI S x0 42) - (1 : Int32)).toNatClampNeg) x6) else (if (lg_cmp x6 (-1000000000000 : Int64)) < (0 : Int32) then some ((0 : Int32), pJ S (gR S x0 41) (((gI S x0 42) - (1 : Int32)).toNatClampNeg) x6) else some ((1 : Int32), pJ S (gR S x0 41) (((gI S x0 42) - (1 : Int32)).toNatClampNeg) x6))) else none)
def fX11_works_212  (x0 : Nat) (x2 : Int64) (x4 : Int64) (S : MS) : Option (Int32 × MS) := fX11_works_407  x0 (x4 * x2) S
def fX11_works_250  (x0 : Nat) (y0 : Int32) (S : MS) : Option (Int32 × MS) := (fX11_is  y0 S).bind fun q5 => fX11_works_407  x0 q5 S
def fX11_works_290  (x0 : Nat) (y0 : Int32) (S : MS) : Option (Int32 × MS) := (fX11_is  y0 S).bind fun q7 => fX11_works_407  x0 q7 S
def fX11_works_270  (x0 : Nat) (y0 : Int32) (S : MS) : Option (Int32 × MS) := (fX11_is  y0 S).bind fun q9 => fX11_works_407  x0 q9 S
def fX11_works_310  (x0 : Nat) (y0 : Int32) (S : MS) : Option (Int32 × MS) := (fX11_is  y0 S).bind fun q11 => fX11_works_407  x0 q11 S
def fX11_works_350  (x0 : Nat) (y0 : Int32) (S : MS) : Option (Int32 × MS) := (fX11_is  y0 S).bind fun q13 => fX11_works_407  x0 q13 S
def fX11_works_330  (x0 : Nat) (y0 : Int32) (S : MS) : Option (Int32 × MS) := (fX11_is  y0 S).bind fun q15 => fX11_works_407  x0 q15 S
def fX11_works_376  (x0 : Nat) (y0 : Int32) (S : MS) : Option (Int32 × MS) := (fX11_is  y0 S).bind fun q17 => fX11_works_407  x0 q17 S
def fX11_works_375  (x0 : Nat) (S : MS) : Option (Int32 × MS) := fX11_works_376  x0 (0 : Int32) S
def fX11_works_402  (x0 : Nat) (y0 : Int32) (S : MS) : Option (Int32 × MS) := (fX11_is  y0 S).bind fun q19 => fX11_works_407  x0 q19 S
def fX11_works_397  (x0 : Nat) (S : MS) : Option (Int32 × MS) := fX11_works_402  x0 (1 : Int32) S
def fX11_works_40  (y0 : Nat) (y1 : Int32) (y2 : Int32) (S : MS) : Option (Int32 × MS) := (fX11_is  y2 S).bind fun q21 => (if bnd y1 (lnM y0) = true then some ((1 : Int32), pJ S y0 y1.toNatClampNeg q21) else none)
def fX11_works (a0 : Nat) (a1 : Int32) (S : MS) : Option (Int32 × MS) := (if bnd ((gI S a0 42) - (1 : Int32)) (lnM (gR S a0 41)) = true then (if a1 = (260 : Int32) then (if lg_cmp (gJ S (gR S a0 41) ((gI S a0 42) - (1 : Int32)).toNatClampNeg) (0 : Int64) = (0 : Int32) then fX11_works_40  (gR S a0 41) ((gI S a0 42) - (1 : Int32)) (1 : Int32) S else fX11_works_40  (gR S a0 41) ((gI S a0 42) - (1 : Int32)) (0 : Int32) S) else (if bnd ((gI S a0 42) - (2 : Int32)) (lnM (gR S a0 41)) = true then (if a1 = (42 : Int32) then (if lg_cmp (gJ S (gR S a0 41) ((gI S a0 42) - (2 : Int32)).toNatClampNeg) (0 : Int64) = (0 : Int32) then fX11_works_212  a0 (gJ S (gR S a0 41) ((gI S a0 42) - (1 : Int32)).toNatClampNeg) (gJ S (gR S a0 41) ((gI S a0 42) - (2 : Int32)).toNatClampNeg) (pI S a0 42 ((gI S a0 42) - (1 : Int32))) else (if (if 0 < (gJ S (gR S a0 41) ((gI S a0 42) - (2 : Int32)).toNatClampNeg) then (gJ S (gR S a0 41) ((gI S a0 42) - (2 : Int32)).toNatClampNeg) else -(gJ S (gR S a0 41) ((gI S a0 42) - (2 : Int32)).toNatClampNeg)) = (0 : Int64) then none else (if (lg_cmp (if 0 < (gJ S (gR S a0 41) ((gI S a0 42) - (1 : Int32)).toNatClampNeg) then (gJ S (gR S a0 41) ((gI S a0 42) - (1 : Int32)).toNatClampNeg) else -(gJ S (gR S a0 41) ((gI S a0 42) - (1 : Int32)).toNatClampNeg)) ((1000000000000 : Int64) / (if 0 < (gJ S (gR S a0 41) ((gI S a0 42) - (2 : Int32)).toNatClampNeg) then (gJ S (gR S a0 41) ((gI S a0 42) - (2 : Int32)).toNatClampNeg) else -(gJ S (gR S a0 41) ((gI S a0 42) - (2 : Int32)).toNatClampNeg)))) ≤ (0 : Int32) then fX11_works_212  a0 (gJ S (gR S a0 41) ((gI S a0 42) - (1 : Int32)).toNatClampNeg) (gJ S (gR S a0 41) ((gI S a0 42) - (2 : Int32)).toNatClampNeg) (pI S a0 42 ((gI S a0 42) - (1 : Int32))) else some ((0 : Int32), pI S a0 42 ((gI S a0 42) - (1 : Int32)))))) else if a1 = (43 : Int32) then fX11_works_407  a0 ((gJ S (gR S a0 41) ((gI S a0 42) - (2 : Int32)).toNatClampNeg) + (gJ S (gR S a0 41) ((gI S a0 42) - (1 : Int32)).toNatClampNeg)) (pI S a0 42 ((gI S a0 42) - (1 : Int32))) else if a1 = (45 : Int32) then fX11_works_407  a0 ((gJ S (gR S a0 41) ((gI S a0 42) - (2 : Int32)).toNatClampNeg) - (gJ S (gR S a0 41) ((gI S a0 42) - (1 : Int32)).toNatClampNeg)) (pI S a0 42 ((gI S a0 42) - (1 : Int32))) else if a1 = (47 : Int32) then (if lg_cmp (gJ S (gR S a0 41) ((gI S a0 42) - (1 : Int32)).toNatClampNeg) (0 : Int64) = (0 : Int32) then some ((0 : Int32), pI S a0 42 ((gI S a0 42) - (1 : Int32))) else (if gJ S (gR S a0 41) ((gI S a0 42) - (1 : Int32)).toNatClampNeg = (0 : Int64) then none else fX11_works_407  a0 ((gJ S (gR S a0 41) ((gI S a0 42) - (2 : Int32)).toNatClampNeg) / (gJ S (gR S a0 41) ((gI S a0 42) - (1 : Int32)).toNatClampNeg)) (pI S a0 42 ((gI S a0 42) - (1 : Int32))))) else if a1 = (60 : Int32) then (if (0 : Int32) ≤ (lg_cmp (gJ S (gR S a0 41) ((gI S a0 42) - (2 : Int32)).toNatClampNeg) (gJ S (gR S a0 41) ((gI S a0 42) - (1 : Int32)).toNatClampNeg)) then fX11_works_250  a0 (0 : Int32) (pI S a0 42 ((gI S a0 42) - (1 : Int32))) else fX11_works_250  a0 (1 : Int32) (pI S a0 42 ((gI S a0 42) - (1 : Int32)))) else if a1 = (61 : Int32) then (if lg_cmp (gJ S (gR S a0 41) ((gI S a0 42) - (2 : Int32)).toNatClampNeg) (gJ S (gR S a0 41) ((gI S a0 42) - (1 : Int32)).toNatClampNeg) = (0 : Int32) then fX11_works_290  a0 (1 : Int32) (pI S a0 42 ((gI S a0 42) - (1 : Int32))) else fX11_works_290  a0 (0 : Int32) (pI S a0 42 ((gI S a0 42) - (1 : Int32)))) else if a1 = (62 : Int32) then (if (lg_cmp (gJ S (gR S a0 41) ((gI S a0 42) - (2 : Int32)).toNatClampNeg) (gJ S (gR S a0 41) ((gI S a0 42) - (1 : Int32)).toNatClampNeg)) ≤ (0 : Int32) then fX11_works_270  a0 (0 : Int32) (pI S a0 42 ((gI S a0 42) - (1 : Int32))) else fX11_works_270  a0 (1 : Int32) (pI S a0 42 ((gI S a0 42) - (1 : Int32)))) else if a1 = (256 : Int32) then (if (0 : Int32) < (lg_cmp (gJ S (gR S a0 41) ((gI S a0 42) - (2 : Int32)).toNatClampNeg) (gJ S (gR S a0 41) ((gI S a0 42) - (1 : Int32)).toNatClampNeg)) then fX11_works_310  a0 (0 : Int32) (pI S a0 42 ((gI S a0 42) - (1 : Int32))) else fX11_works_310  a0 (1 : Int32) (pI S a0 42 ((gI S a0 42) - (1 : Int32)))) else if a1 = (257 : Int32) then (if lg_cmp (gJ S (gR S a0 41) ((gI S a0 42) - (2 : Int32)).toNatClampNeg) (gJ S (gR S a0 41) ((gI S a0 42) - (1 : Int32)).toNatClampNeg) = (0 : Int32) then fX11_works_350  a0 (0 : Int32) (pI S a0 42 ((gI S a0 42) - (1 : Int32))) else fX11_works_350  a0 (1 : Int32) (pI S a0 42 ((gI S a0 42) - (1 : Int32)))) else if a1 = (258 : Int32) then (if (lg_cmp (gJ S (gR S a0 41) ((gI S a0 42) - (2 : Int32)).toNatClampNeg) (gJ S (gR S a0 41) ((gI S a0 42) - (1 : Int32)).toNatClampNeg)) < (0 : Int32) then fX11_works_330  a0 (0 : Int32) (pI S a0 42 ((gI S a0 42) - (1 : Int32))) else fX11_works_330  a0 (1 : Int32) (pI S a0 42 ((gI S a0 42) - (1 : Int32)))) else if a1 = (261 : Int32) then (if lg_cmp (gJ S (gR S a0 41) ((gI S a0 42) - (2 : Int32)).toNatClampNeg) (0 : Int64) = (0 : Int32) then fX11_works_375  a0 (pI S a0 42 ((gI S a0 42) - (1 : Int32))) else (if lg_cmp (gJ S (gR S a0 41) ((gI S a0 42) - (1 : Int32)).toNatClampNeg) (0 : Int64) = (0 : Int32) then fX11_works_375  a0 (pI S a0 42 ((gI S a0 42) - (1 : Int32))) else fX11_works_376  a0 (1 : Int32) (pI S a0 42 ((gI S a0 42) - (1 : Int32))))) else (if lg_cmp (gJ S (gR S a0 41) ((gI S a0 42) - (2 : Int32)).toNatClampNeg) (0 : Int64) = (0 : Int32) then (if lg_cmp (gJ S (gR S a0 41) ((gI S a0 42) - (1 : Int32)).toNatClampNeg) (0 : Int64) = (0 : Int32) then fX11_works_402  a0 (0 : Int32) (pI S a0 42 ((gI S a0 42) - (1 : Int32))) else fX11_works_397  a0 (pI S a0 42 ((gI S a0 42) - (1 : Int32)))) else fX11_works_397  a0 (pI S a0 42 ((gI S a0 42) - (1 : Int32))))) else none)) else none)
set_option maxRecDepth 100000 in
theorem kX11_works_407 {p : Program} {l : Launch} {e : Env} {s : State} {m : MethodId} {av : Array Value} {below : List Frame} {meth : Method} {c : Code} {A : Nat → Prop} {G : Gv} {L : List Nat} {q : (Int32 × MS)}  (C : mC p s m av meth c cX11_works RX11 8 (some .boolean)) : ∀ (x0 : Nat) (x6 : Int64) (S : MS) (H : Heap) (locs : List Loc) (ls : Array Slot), (x0 < shM.1 ∧ shM.2.1 x0 = 11) → mW G shM L S A s H locs → lv_has ls 8 [(0, .ref (ad L x0)), (6, .long x6)] → fX11_works_407  x0 x6 S = some q → W p l e (rmd (2)) s m av below meth c H locs 0 0 (MQ below (mQ G shM L q.2 (some (.int q.1)) A) av s 0 0 A) (F0 m 407 ls []) := by
  intro x0 x6 S H locs ls hx0 hW hl hf
  unfold fX11_works_407 at hf
  refine lv_aload_n C.1 C.2.1 dX11_works_407 rfl (lv_at hl 0 rfl) ?_
  refine m_getr C hW hx0 flX11_90 (by decide) dX11_works_408 (fun hk1 => ?_)
  refine lv_aload_n C.1 C.2.1 dX11_works_411 rfl (lv_at hl 0 rfl) ?_
  refine m_geti C hW hx0 flX11_338 dX11_works_412 ?_
  refine lv_iconst C.1 C.2.1 dX11_works_415 ic_1 ?_
  refine lv_isub C.1 C.2.1 dX11_works_416 ?_
  refine lv_lload C.1 C.2.1 dX11_works_417 (lv_at hl 1 rfl) ?_
  obtain ⟨hb2, hf⟩ := gd hf
  refine m_last C hW hk1 hb2 dX11_works_419 (fun H locs hW => ?_)
  refine lv_lload C.1 C.2.1 dX11_works_420 (lv_at hl 1 rfl) ?_
  refine lv_ldc2 C.1 C.2.1 C.2.2.2.1 (C.2.2.2.2.1 _ kw_1808) dX11_works_422 ?_
  refine W.lcmp C.1 C.2.1 dX11_works_425 ?_
  refine lv_if_gt (tgt := 442) C.1 C.2.1 dX11_works_426 rfl (fun c3 => ?_) (fun c3 => ?_)
  · have hf := (if_pos c3).symm.trans hf
    refine lv_iconst C.1 C.2.1 dX11_works_442 ic_0 ?_
    cases hf
    exact m_zret C hW rfl dX11_works_443
  · have hf := (if_neg c3).symm.trans hf
    refine lv_lload C.1 C.2.1 dX11_works_429 (lv_at hl 1 rfl) ?_
    refine lv_ldc2 C.1 C.2.1 C.2.2.2.1 (C.2.2.2.2.1 _ kw_1809) dX11_works_431 ?_
    refine W.lcmp C.1 C.2.1 dX11_works_434 ?_
    refine lv_if_lt (tgt := 442) C.1 C.2.1 dX11_works_435 rfl (fun c4 => ?_) (fun c4 => ?_)
    · have hf := (if_pos c4).symm.trans hf
      refine lv_iconst C.1 C.2.1 dX11_works_442 ic_0 ?_
      cases hf
      exact m_zret C hW rfl dX11_works_443
    · have hf := (if_neg c4).symm.trans hf
      refine lv_iconst C.1 C.2.1 dX11_works_438 ic_1 ?_
      refine lv_goto (tgt := 443) C.1 C.2.1 dX11_works_439 rfl ?_
      cases hf
      exact m_zret C hW rfl dX11_works_443

set_option maxRecDepth 100000 in
theorem kX11_works_212 {p : Program} {l : Launch} {e : Env} {s : State} {m : MethodId} {av : Array Value} {below : List Frame} {meth : Method} {c : Code} {A : Nat → Prop} {G : Gv} {L : List Nat} {q : (Int32 × MS)}  (C : mC p s m av meth c cX11_works RX11 8 (some .boolean)) : ∀ (x0 : Nat) (x2 : Int64) (x4 : Int64) (S : MS) (H : Heap) (locs : List Loc) (ls : Array Slot), (x0 < shM.1 ∧ shM.2.1 x0 = 11) → mW G shM L S A s H locs → lv_has ls 8 [(0, .ref (ad L x0)), (2, .long x2), (4, .long x4)] → fX11_works_212  x0 x2 x4 S = some q → W p l e (rmd (2)) s m av below meth c H locs 0 0 (MQ below (mQ G shM L q.2 (some (.int q.1)) A) av s 0 0 A) (F0 m 212 ls []) := by
  intro x0 x2 x4 S H locs ls hx0 hW hl hf
  unfold fX11_works_212 at hf
  refine lv_lload C.1 C.2.1 dX11_works_212 (lv_at hl 2 rfl) ?_
  refine lv_lload_n C.1 C.2.1 dX11_works_214 rfl (lv_at hl 1 rfl) ?_
  refine lv_lmul C.1 C.2.1 dX11_works_215 ?_
  refine lv_lstore (lv' := [(6, .long (x4 * x2)), (0, .ref (ad L x0)), (2, .long x2), (4, .long x4)]) C.1 C.2.1 dX11_works_216 hl (by decide) rfl (fun ls hl => ?_)
  refine lv_goto (tgt := 407) C.1 C.2.1 dX11_works_218 rfl ?_
  exact kX11_works_407  C x0 (x4 * x2) _ _ _ _ hx0 hW (lv_sub hl [1, 0] rfl) hf

set_option maxRecDepth 100000 in
theorem kX11_works_250 {p : Program} {l : Launch} {e : Env} {s : State} {m : MethodId} {av : Array Value} {below : List Frame} {meth : Method} {c : Code} {A : Nat → Prop} {G : Gv} {L : List Nat} {q : (Int32 × MS)}  (C : mC p s m av meth c cX11_works RX11 8 (some .boolean)) : ∀ (x0 : Nat) (y0 : Int32) (S : MS) (H : Heap) (locs : List Loc) (ls : Array Slot), (x0 < shM.1 ∧ shM.2.1 x0 = 11) → mW G shM L S A s H locs → lv_has ls 8 [(0, .ref (ad L x0))] → fX11_works_250  x0 y0 S = some q → W p l e (rmd (2)) s m av below meth c H locs 0 0 (MQ below (mQ G shM L q.2 (some (.int q.1)) A) av s 0 0 A) (F0 m 250 ls [.int y0]) := by
  intro x0 y0 S H locs ls hx0 hW hl hf
  unfold fX11_works_250 at hf
  obtain ⟨q5, h6, hf⟩ := bd hf
  refine m_callS (As := [.int y0]) (rest := []) C hW (cX11_is_ok   h6) mlX11_341 rfl hl.1 rfl (Nat.le_of_ble_eq_true rfl) (Nat.le_of_ble_eq_true rfl) (Nat.le_of_ble_eq_true rfl) dX11_works_250 (fun H locs hW => ?_)
  refine lv_lstore (lv' := [(6, .long q5), (0, .ref (ad L x0))]) C.1 C.2.1 dX11_works_253 hl (by decide) rfl (fun ls hl => ?_)
  refine lv_goto (tgt := 407) C.1 C.2.1 dX11_works_255 rfl ?_
  exact kX11_works_407  C x0 q5 _ _ _ _ hx0 hW (lv_sub hl [1, 0] rfl) hf

set_option maxRecDepth 100000 in
theorem kX11_works_290 {p : Program} {l : Launch} {e : Env} {s : State} {m : MethodId} {av : Array Value} {below : List Frame} {meth : Method} {c : Code} {A : Nat → Prop} {G : Gv} {L : List Nat} {q : (Int32 × MS)}  (C : mC p s m av meth c cX11_works RX11 8 (some .boolean)) : ∀ (x0 : Nat) (y0 : Int32) (S : MS) (H : Heap) (locs : List Loc) (ls : Array Slot), (x0 < shM.1 ∧ shM.2.1 x0 = 11) → mW G shM L S A s H locs → lv_has ls 8 [(0, .ref (ad L x0))] → fX11_works_290  x0 y0 S = some q → W p l e (rmd (2)) s m av below meth c H locs 0 0 (MQ below (mQ G shM L q.2 (some (.int q.1)) A) av s 0 0 A) (F0 m 290 ls [.int y0]) := by
  intro x0 y0 S H locs ls hx0 hW hl hf
  unfold fX11_works_290 at hf
  obtain ⟨q7, h8, hf⟩ := bd hf
  refine m_callS (As := [.int y0]) (rest := []) C hW (cX11_is_ok   h8) mlX11_341 rfl hl.1 rfl (Nat.le_of_ble_eq_true rfl) (Nat.le_of_ble_eq_true rfl) (Nat.le_of_ble_eq_true rfl) dX11_works_290 (fun H locs hW => ?_)
  refine lv_lstore (lv' := [(6, .long q7), (0, .ref (ad L x0))]) C.1 C.2.1 dX11_works_293 hl (by decide) rfl (fun ls hl => ?_)
  refine lv_goto (tgt := 407) C.1 C.2.1 dX11_works_295 rfl ?_
  exact kX11_works_407  C x0 q7 _ _ _ _ hx0 hW (lv_sub hl [1, 0] rfl) hf

set_option maxRecDepth 100000 in
theorem kX11_works_270 {p : Program} {l : Launch} {e : Env} {s : State} {m : MethodId} {av : Array Value} {below : List Frame} {meth : Method} {c : Code} {A : Nat → Prop} {G : Gv} {L : List Nat} {q : (Int32 × MS)}  (C : mC p s m av meth c cX11_works RX11 8 (some .boolean)) : ∀ (x0 : Nat) (y0 : Int32) (S : MS) (H : Heap) (locs : List Loc) (ls : Array Slot), (x0 < shM.1 ∧ shM.2.1 x0 = 11) → mW G shM L S A s H locs → lv_has ls 8 [(0, .ref (ad L x0))] → fX11_works_270  x0 y0 S = some q → W p l e (rmd (2)) s m av below meth c H locs 0 0 (MQ below (mQ G shM L q.2 (some (.int q.1)) A) av s 0 0 A) (F0 m 270 ls [.int y0]) := by
  intro x0 y0 S H locs ls hx0 hW hl hf
  unfold fX11_works_270 at hf
  obtain ⟨q9, h10, hf⟩ := bd hf
  refine m_callS (As := [.int y0]) (rest := []) C hW (cX11_is_ok   h10) mlX11_341 rfl hl.1 rfl (Nat.le_of_ble_eq_true rfl) (Nat.le_of_ble_eq_true rfl) (Nat.le_of_ble_eq_true rfl) dX11_works_270 (fun H locs hW => ?_)
  refine lv_lstore (lv' := [(6, .long q9), (0, .ref (ad L x0))]) C.1 C.2.1 dX11_works_273 hl (by decide) rfl (fun ls hl => ?_)
  refine lv_goto (tgt := 407) C.1 C.2.1 dX11_works_275 rfl ?_
  exact kX11_works_407  C x0 q9 _ _ _ _ hx0 hW (lv_sub hl [1, 0] rfl) hf

set_option maxRecDepth 100000 in
theorem kX11_works_310 {p : Program} {l : Launch} {e : Env} {s : State} {m : MethodId} {av : Array Value} {below : List Frame} {meth : Method} {c : Code} {A : Nat → Prop} {G : Gv} {L : List Nat} {q : (Int32 × MS)}  (C : mC p s m av meth c cX11_works RX11 8 (some .boolean)) : ∀ (x0 : Nat) (y0 : Int32) (S : MS) (H : Heap) (locs : List Loc) (ls : Array Slot), (x0 < shM.1 ∧ shM.2.1 x0 = 11) → mW G shM L S A s H locs → lv_has ls 8 [(0, .ref (ad L x0))] → fX11_works_310  x0 y0 S = some q → W p l e (rmd (2)) s m av below meth c H locs 0 0 (MQ below (mQ G shM L q.2 (some (.int q.1)) A) av s 0 0 A) (F0 m 310 ls [.int y0]) := by
  intro x0 y0 S H locs ls hx0 hW hl hf
  unfold fX11_works_310 at hf
  obtain ⟨q11, h12, hf⟩ := bd hf
  refine m_callS (As := [.int y0]) (rest := []) C hW (cX11_is_ok   h12) mlX11_341 rfl hl.1 rfl (Nat.le_of_ble_eq_true rfl) (Nat.le_of_ble_eq_true rfl) (Nat.le_of_ble_eq_true rfl) dX11_works_310 (fun H locs hW => ?_)
  refine lv_lstore (lv' := [(6, .long q11), (0, .ref (ad L x0))]) C.1 C.2.1 dX11_works_313 hl (by decide) rfl (fun ls hl => ?_)
  refine lv_goto (tgt := 407) C.1 C.2.1 dX11_works_315 rfl ?_
  exact kX11_works_407  C x0 q11 _ _ _ _ hx0 hW (lv_sub hl [1, 0] rfl) hf

set_option maxRecDepth 100000 in
theorem kX11_works_350 {p : Program} {l : Launch} {e : Env} {s : State} {m : MethodId} {av : Array Value} {below : List Frame} {meth : Method} {c : Code} {A : Nat → Prop} {G : Gv} {L : List Nat} {q : (Int32 × MS)}  (C : mC p s m av meth c cX11_works RX11 8 (some .boolean)) : ∀ (x0 : Nat) (y0 : Int32) (S : MS) (H : Heap) (locs : List Loc) (ls : Array Slot), (x0 < shM.1 ∧ shM.2.1 x0 = 11) → mW G shM L S A s H locs → lv_has ls 8 [(0, .ref (ad L x0))] → fX11_works_350  x0 y0 S = some q → W p l e (rmd (2)) s m av below meth c H locs 0 0 (MQ below (mQ G shM L q.2 (some (.int q.1)) A) av s 0 0 A) (F0 m 350 ls [.int y0]) := by
  intro x0 y0 S H locs ls hx0 hW hl hf
  unfold fX11_works_350 at hf
  obtain ⟨q13, h14, hf⟩ := bd hf
  refine m_callS (As := [.int y0]) (rest := []) C hW (cX11_is_ok   h14) mlX11_341 rfl hl.1 rfl (Nat.le_of_ble_eq_true rfl) (Nat.le_of_ble_eq_true rfl) (Nat.le_of_ble_eq_true rfl) dX11_works_350 (fun H locs hW => ?_)
  refine lv_lstore (lv' := [(6, .long q13), (0, .ref (ad L x0))]) C.1 C.2.1 dX11_works_353 hl (by decide) rfl (fun ls hl => ?_)
  refine lv_goto (tgt := 407) C.1 C.2.1 dX11_works_355 rfl ?_
  exact kX11_works_407  C x0 q13 _ _ _ _ hx0 hW (lv_sub hl [1, 0] rfl) hf

set_option maxRecDepth 100000 in
theorem kX11_works_330 {p : Program} {l : Launch} {e : Env} {s : State} {m : MethodId} {av : Array Value} {below : List Frame} {meth : Method} {c : Code} {A : Nat → Prop} {G : Gv} {L : List Nat} {q : (Int32 × MS)}  (C : mC p s m av meth c cX11_works RX11 8 (some .boolean)) : ∀ (x0 : Nat) (y0 : Int32) (S : MS) (H : Heap) (locs : List Loc) (ls : Array Slot), (x0 < shM.1 ∧ shM.2.1 x0 = 11) → mW G shM L S A s H locs → lv_has ls 8 [(0, .ref (ad L x0))] → fX11_works_330  x0 y0 S = some q → W p l e (rmd (2)) s m av below meth c H locs 0 0 (MQ below (mQ G shM L q.2 (some (.int q.1)) A) av s 0 0 A) (F0 m 330 ls [.int y0]) := by
  intro x0 y0 S H locs ls hx0 hW hl hf
  unfold fX11_works_330 at hf
  obtain ⟨q15, h16, hf⟩ := bd hf
  refine m_callS (As := [.int y0]) (rest := []) C hW (cX11_is_ok   h16) mlX11_341 rfl hl.1 rfl (Nat.le_of_ble_eq_true rfl) (Nat.le_of_ble_eq_true rfl) (Nat.le_of_ble_eq_true rfl) dX11_works_330 (fun H locs hW => ?_)
  refine lv_lstore (lv' := [(6, .long q15), (0, .ref (ad L x0))]) C.1 C.2.1 dX11_works_333 hl (by decide) rfl (fun ls hl => ?_)
  refine lv_goto (tgt := 407) C.1 C.2.1 dX11_works_335 rfl ?_
  exact kX11_works_407  C x0 q15 _ _ _ _ hx0 hW (lv_sub hl [1, 0] rfl) hf

set_option maxRecDepth 100000 in
theorem kX11_works_376 {p : Program} {l : Launch} {e : Env} {s : State} {m : MethodId} {av : Array Value} {below : List Frame} {meth : Method} {c : Code} {A : Nat → Prop} {G : Gv} {L : List Nat} {q : (Int32 × MS)}  (C : mC p s m av meth c cX11_works RX11 8 (some .boolean)) : ∀ (x0 : Nat) (y0 : Int32) (S : MS) (H : Heap) (locs : List Loc) (ls : Array Slot), (x0 < shM.1 ∧ shM.2.1 x0 = 11) → mW G shM L S A s H locs → lv_has ls 8 [(0, .ref (ad L x0))] → fX11_works_376  x0 y0 S = some q → W p l e (rmd (2)) s m av below meth c H locs 0 0 (MQ below (mQ G shM L q.2 (some (.int q.1)) A) av s 0 0 A) (F0 m 376 ls [.int y0]) := by
  intro x0 y0 S H locs ls hx0 hW hl hf
  unfold fX11_works_376 at hf
  obtain ⟨q17, h18, hf⟩ := bd hf
  refine m_callS (As := [.int y0]) (rest := []) C hW (cX11_is_ok   h18) mlX11_341 rfl hl.1 rfl (Nat.le_of_ble_eq_true rfl) (Nat.le_of_ble_eq_true rfl) (Nat.le_of_ble_eq_true rfl) dX11_works_376 (fun H locs hW => ?_)
  refine lv_lstore (lv' := [(6, .long q17), (0, .ref (ad L x0))]) C.1 C.2.1 dX11_works_379 hl (by decide) rfl (fun ls hl => ?_)
  refine lv_goto (tgt := 407) C.1 C.2.1 dX11_works_381 rfl ?_
  exact kX11_works_407  C x0 q17 _ _ _ _ hx0 hW (lv_sub hl [1, 0] rfl) hf

set_option maxRecDepth 100000 in
theorem kX11_works_375 {p : Program} {l : Launch} {e : Env} {s : State} {m : MethodId} {av : Array Value} {below : List Frame} {meth : Method} {c : Code} {A : Nat → Prop} {G : Gv} {L : List Nat} {q : (Int32 × MS)}  (C : mC p s m av meth c cX11_works RX11 8 (some .boolean)) : ∀ (x0 : Nat) (S : MS) (H : Heap) (locs : List Loc) (ls : Array Slot), (x0 < shM.1 ∧ shM.2.1 x0 = 11) → mW G shM L S A s H locs → lv_has ls 8 [(0, .ref (ad L x0))] → fX11_works_375  x0 S = some q → W p l e (rmd (2)) s m av below meth c H locs 0 0 (MQ below (mQ G shM L q.2 (some (.int q.1)) A) av s 0 0 A) (F0 m 375 ls []) := by
  intro x0 S H locs ls hx0 hW hl hf
  unfold fX11_works_375 at hf
  refine lv_iconst C.1 C.2.1 dX11_works_375 ic_0 ?_
  exact kX11_works_376  C x0 (0 : Int32) _ _ _ _ hx0 hW (lv_sub hl [0] rfl) hf

set_option maxRecDepth 100000 in
theorem kX11_works_402 {p : Program} {l : Launch} {e : Env} {s : State} {m : MethodId} {av : Array Value} {below : List Frame} {meth : Method} {c : Code} {A : Nat → Prop} {G : Gv} {L : List Nat} {q : (Int32 × MS)}  (C : mC p s m av meth c cX11_works RX11 8 (some .boolean)) : ∀ (x0 : Nat) (y0 : Int32) (S : MS) (H : Heap) (locs : List Loc) (ls : Array Slot), (x0 < shM.1 ∧ shM.2.1 x0 = 11) → mW G shM L S A s H locs → lv_has ls 8 [(0, .ref (ad L x0))] → fX11_works_402  x0 y0 S = some q → W p l e (rmd (2)) s m av below meth c H locs 0 0 (MQ below (mQ G shM L q.2 (some (.int q.1)) A) av s 0 0 A) (F0 m 402 ls [.int y0]) := by
  intro x0 y0 S H locs ls hx0 hW hl hf
  unfold fX11_works_402 at hf
  obtain ⟨q19, h20, hf⟩ := bd hf
  refine m_callS (As := [.int y0]) (rest := []) C hW (cX11_is_ok   h20) mlX11_341 rfl hl.1 rfl (Nat.le_of_ble_eq_true rfl) (Nat.le_of_ble_eq_true rfl) (Nat.le_of_ble_eq_true rfl) dX11_works_402 (fun H locs hW => ?_)
  refine lv_lstore (lv' := [(6, .long q19), (0, .ref (ad L x0))]) C.1 C.2.1 dX11_works_405 hl (by decide) rfl (fun ls hl => ?_)
  exact kX11_works_407  C x0 q19 _ _ _ _ hx0 hW (lv_sub hl [1, 0] rfl) hf

set_option maxRecDepth 100000 in
theorem kX11_works_397 {p : Program} {l : Launch} {e : Env} {s : State} {m : MethodId} {av : Array Value} {below : List Frame} {meth : Method} {c : Code} {A : Nat → Prop} {G : Gv} {L : List Nat} {q : (Int32 × MS)}  (C : mC p s m av meth c cX11_works RX11 8 (some .boolean)) : ∀ (x0 : Nat) (S : MS) (H : Heap) (locs : List Loc) (ls : Array Slot), (x0 < shM.1 ∧ shM.2.1 x0 = 11) → mW G shM L S A s H locs → lv_has ls 8 [(0, .ref (ad L x0))] → fX11_works_397  x0 S = some q → W p l e (rmd (2)) s m av below meth c H locs 0 0 (MQ below (mQ G shM L q.2 (some (.int q.1)) A) av s 0 0 A) (F0 m 397 ls []) := by
  intro x0 S H locs ls hx0 hW hl hf
  unfold fX11_works_397 at hf
  refine lv_iconst C.1 C.2.1 dX11_works_397 ic_1 ?_
  refine lv_goto (tgt := 402) C.1 C.2.1 dX11_works_398 rfl ?_
  exact kX11_works_402  C x0 (1 : Int32) _ _ _ _ hx0 hW (lv_sub hl [0] rfl) hf

set_option maxRecDepth 100000 in
theorem kX11_works_40 {p : Program} {l : Launch} {e : Env} {s : State} {m : MethodId} {av : Array Value} {below : List Frame} {meth : Method} {c : Code} {A : Nat → Prop} {G : Gv} {L : List Nat} {q : (Int32 × MS)}  (C : mC p s m av meth c cX11_works RX11 8 (some .boolean)) : ∀ (y0 : Nat) (y1 : Int32) (y2 : Int32) (S : MS) (H : Heap) (locs : List Loc) (ls : Array Slot), (y0 < shM.1 ∧ shM.2.1 y0 = 14) → mW G shM L S A s H locs → lv_has ls 8 [] → fX11_works_40  y0 y1 y2 S = some q → W p l e (rmd (2)) s m av below meth c H locs 0 0 (MQ below (mQ G shM L q.2 (some (.int q.1)) A) av s 0 0 A) (F0 m 40 ls [.int y2, .int y1, .ref (ad L y0)]) := by
  intro y0 y1 y2 S H locs ls hy0 hW hl hf
  unfold fX11_works_40 at hf
  obtain ⟨q21, h22, hf⟩ := bd hf
  refine m_callS (As := [.int y2]) (rest := [.int y1, .ref (ad L y0)]) C hW (cX11_is_ok   h22) mlX11_341 rfl hl.1 rfl (Nat.le_of_ble_eq_true rfl) (Nat.le_of_ble_eq_true rfl) (Nat.le_of_ble_eq_true rfl) dX11_works_40 (fun H locs hW => ?_)
  obtain ⟨hb23, hf⟩ := gd hf
  refine m_last C hW hy0 hb23 dX11_works_43 (fun H locs hW => ?_)
  refine lv_iconst C.1 C.2.1 dX11_works_44 ic_1 ?_
  cases hf
  exact m_zret C hW rfl dX11_works_45

set_option maxRecDepth 100000 in
theorem cX11_works_ok {l : Launch} {G : Gv} {L : List Nat} {S : MS} {a0 : Nat} {a1 : Int32} {q : (Int32 × MS)} (ha0 : a0 < shM.1 ∧ shM.2.1 a0 = 11) (hf : fX11_works a0 a1 S = some q) : Mt l yX11_works cX11_works 8 (some .boolean) (2) G shM L S [.ref (ad L a0), .int a1] (some (.int q.1)) q.2 := by
  refine m_enter (lv := [(0, .ref (ad L a0)), (1, .int a1)]) (plainFor_of_name (by decide)) (Nat.le_of_ble_eq_true rfl) rfl ?_
  intro p e s m below meth c A ls C hW hl
  unfold fX11_works at hf
  refine lv_aload_n C.1 C.2.1 dX11_works_0 rfl (lv_at hl 0 rfl) ?_
  refine m_getr C hW ha0 flX11_90 (by decide) dX11_works_1 (fun hk24 => ?_)
  refine lv_aload_n C.1 C.2.1 dX11_works_4 rfl (lv_at hl 0 rfl) ?_
  refine m_geti C hW ha0 flX11_338 dX11_works_5 ?_
  refine lv_iconst C.1 C.2.1 dX11_works_8 ic_1 ?_
  refine lv_isub C.1 C.2.1 dX11_works_9 ?_
  obtain ⟨hb25, hf⟩ := gd hf
  refine m_lald C hW hk24 hb25 dX11_works_10 ?_
  refine lv_lstore_n (lv' := [(2, .long (gJ S (gR S a0 41) ((gI S a0 42) - (1 : Int32)).toNatClampNeg)), (0, .ref (ad L a0)), (1, .int a1)]) C.1 C.2.1 dX11_works_11 rfl hl (by decide) rfl (fun ls hl => ?_)
  refine lv_iload_n C.1 C.2.1 dX11_works_12 rfl (lv_at hl 2 rfl) ?_
  refine lv_sipush C.1 C.2.1 dX11_works_13 sp_260 ?_
  refine lv_icmp_ne (tgt := 46) C.1 C.2.1 dX11_works_16 rfl (fun c26 => ?_) (fun c26 => ?_)
  · have hf := (if_neg c26).symm.trans hf
    refine lv_aload_n C.1 C.2.1 dX11_works_46 rfl (lv_at hl 1 rfl) ?_
    refine m_getr C hW ha0 flX11_90 (by decide) dX11_works_47 (fun hk27 => ?_)
    refine lv_aload_n C.1 C.2.1 dX11_works_50 rfl (lv_at hl 1 rfl) ?_
    refine m_geti C hW ha0 flX11_338 dX11_works_51 ?_
    refine lv_iconst C.1 C.2.1 dX11_works_54 ic_2 ?_
    refine lv_isub C.1 C.2.1 dX11_works_55 ?_
    obtain ⟨hb28, hf⟩ := gd hf
    refine m_lald C hW hk27 hb28 dX11_works_56 ?_
    refine lv_lstore (lv' := [(4, .long (gJ S (gR S a0 41) ((gI S a0 42) - (2 : Int32)).toNatClampNeg)), (2, .long (gJ S (gR S a0 41) ((gI S a0 42) - (1 : Int32)).toNatClampNeg)), (0, .ref (ad L a0)), (1, .int a1)]) C.1 C.2.1 dX11_works_57 hl (by decide) rfl (fun ls hl => ?_)
    refine lv_aload_n C.1 C.2.1 dX11_works_59 rfl (lv_at hl 2 rfl) ?_
    refine lv_dup C.1 C.2.1 dX11_works_60 rfl ?_
    refine m_geti C hW ha0 flX11_338 dX11_works_61 ?_
    refine lv_iconst C.1 C.2.1 dX11_works_64 ic_1 ?_
    refine lv_isub C.1 C.2.1 dX11_works_65 ?_
    refine m_puti C hW ha0 fpX11_338 dX11_works_66 (fun H locs hW => ?_)
    refine lv_iload_n C.1 C.2.1 dX11_works_69 rfl (lv_at hl 3 rfl) ?_
    by_cases c29 : a1 = (42 : Int32)
    · have hf := (if_pos c29).symm.trans hf
      refine lv_lookup (tgt := 186) (off := 116) C.1 C.2.1 dX11_works_70 rfl (by rw [c29]; rfl) rfl ?_
      refine lv_lload C.1 C.2.1 dX11_works_186 (lv_at hl 0 rfl) ?_
      refine lv_lconst C.1 C.2.1 dX11_works_188 lc_0 ?_
      refine W.lcmp C.1 C.2.1 dX11_works_189 ?_
      refine lv_if_eq (tgt := 212) C.1 C.2.1 dX11_works_190 rfl (fun c30 => ?_) (fun c30 => ?_)
      · have hf := (if_pos c30).symm.trans hf
        exact kX11_works_212  C a0 (gJ S (gR S a0 41) ((gI S a0 42) - (1 : Int32)).toNatClampNeg) (gJ S (gR S a0 41) ((gI S a0 42) - (2 : Int32)).toNatClampNeg) _ _ _ _ ha0 hW (lv_sub hl [2, 1, 0] rfl) hf
      · have hf := (if_neg c30).symm.trans hf
        refine lv_lload_n C.1 C.2.1 dX11_works_193 rfl (lv_at hl 1 rfl) ?_
        refine va_mabs_long C.1 C.2.1 (C.2.2.1.trans hl.1.symm) C.2.2.2.1 (C.2.2.2.2.1 _ kw_1805) (C.2.2.2.2.1 _ kw_1806) (C.2.2.2.2.1 _ kw_135) (C.2.2.2.2.1 _ kw_1807) (Nat.le_of_ble_eq_true rfl) (Nat.le_of_ble_eq_true rfl) (Nat.le_refl 0) (Nat.le_refl 0) dX11_works_194 ?_
        refine lv_ldc2 C.1 C.2.1 C.2.2.2.1 (C.2.2.2.2.1 _ kw_1808) dX11_works_197 ?_
        refine lv_lload C.1 C.2.1 dX11_works_200 (lv_at hl 0 rfl) ?_
        refine va_mabs_long C.1 C.2.1 (C.2.2.1.trans hl.1.symm) C.2.2.2.1 (C.2.2.2.2.1 _ kw_1805) (C.2.2.2.2.1 _ kw_1806) (C.2.2.2.2.1 _ kw_135) (C.2.2.2.2.1 _ kw_1807) (Nat.le_of_ble_eq_true rfl) (Nat.le_of_ble_eq_true rfl) (Nat.le_refl 0) (Nat.le_refl 0) dX11_works_202 ?_
        obtain ⟨hz31, hf⟩ := nz hf
        refine lv_ldiv C.1 C.2.1 dX11_works_205 hz31 ?_
        refine W.lcmp C.1 C.2.1 dX11_works_206 ?_
        refine lv_if_le (tgt := 212) C.1 C.2.1 dX11_works_207 rfl (fun c32 => ?_) (fun c32 => ?_)
        · have hf := (if_pos c32).symm.trans hf
          exact kX11_works_212  C a0 (gJ S (gR S a0 41) ((gI S a0 42) - (1 : Int32)).toNatClampNeg) (gJ S (gR S a0 41) ((gI S a0 42) - (2 : Int32)).toNatClampNeg) _ _ _ _ ha0 hW (lv_sub hl [2, 1, 0] rfl) hf
        · have hf := (if_neg c32).symm.trans hf
          refine lv_iconst C.1 C.2.1 dX11_works_210 ic_0 ?_
          cases hf
          exact m_zret C hW rfl dX11_works_211
    have hf := (if_neg c29).symm.trans hf
    by_cases c33 : a1 = (43 : Int32)
    · have hf := (if_pos c33).symm.trans hf
      refine lv_lookup (tgt := 168) (off := 98) C.1 C.2.1 dX11_works_70 rfl (by rw [c33]; rfl) rfl ?_
      refine lv_lload C.1 C.2.1 dX11_works_168 (lv_at hl 0 rfl) ?_
      refine lv_lload_n C.1 C.2.1 dX11_works_170 rfl (lv_at hl 1 rfl) ?_
      refine lv_ladd C.1 C.2.1 dX11_works_171 ?_
      refine lv_lstore (lv' := [(6, .long ((gJ S (gR S a0 41) ((gI S a0 42) - (2 : Int32)).toNatClampNeg) + (gJ S (gR S a0 41) ((gI S a0 42) - (1 : Int32)).toNatClampNeg))), (4, .long (gJ S (gR S a0 41) ((gI S a0 42) - (2 : Int32)).toNatClampNeg)), (2, .long (gJ S (gR S a0 41) ((gI S a0 42) - (1 : Int32)).toNatClampNeg)), (0, .ref (ad L a0)), (1, .int a1)]) C.1 C.2.1 dX11_works_172 hl (by decide) rfl (fun ls hl => ?_)
      refine lv_goto (tgt := 407) C.1 C.2.1 dX11_works_174 rfl ?_
      exact kX11_works_407  C a0 ((gJ S (gR S a0 41) ((gI S a0 42) - (2 : Int32)).toNatClampNeg) + (gJ S (gR S a0 41) ((gI S a0 42) - (1 : Int32)).toNatClampNeg)) _ _ _ _ ha0 hW (lv_sub hl [3, 0] rfl) hf
    have hf := (if_neg c33).symm.trans hf
    by_cases c34 : a1 = (45 : Int32)
    · have hf := (if_pos c34).symm.trans hf
      refine lv_lookup (tgt := 177) (off := 107) C.1 C.2.1 dX11_works_70 rfl (by rw [c34]; rfl) rfl ?_
      refine lv_lload C.1 C.2.1 dX11_works_177 (lv_at hl 0 rfl) ?_
      refine lv_lload_n C.1 C.2.1 dX11_works_179 rfl (lv_at hl 1 rfl) ?_
      refine lv_lsub C.1 C.2.1 dX11_works_180 ?_
      refine lv_lstore (lv' := [(6, .long ((gJ S (gR S a0 41) ((gI S a0 42) - (2 : Int32)).toNatClampNeg) - (gJ S (gR S a0 41) ((gI S a0 42) - (1 : Int32)).toNatClampNeg))), (4, .long (gJ S (gR S a0 41) ((gI S a0 42) - (2 : Int32)).toNatClampNeg)), (2, .long (gJ S (gR S a0 41) ((gI S a0 42) - (1 : Int32)).toNatClampNeg)), (0, .ref (ad L a0)), (1, .int a1)]) C.1 C.2.1 dX11_works_181 hl (by decide) rfl (fun ls hl => ?_)
      refine lv_goto (tgt := 407) C.1 C.2.1 dX11_works_183 rfl ?_
      exact kX11_works_407  C a0 ((gJ S (gR S a0 41) ((gI S a0 42) - (2 : Int32)).toNatClampNeg) - (gJ S (gR S a0 41) ((gI S a0 42) - (1 : Int32)).toNatClampNeg)) _ _ _ _ ha0 hW (lv_sub hl [3, 0] rfl) hf
    have hf := (if_neg c34).symm.trans hf
    by_cases c35 : a1 = (47 : Int32)
    · have hf := (if_pos c35).symm.trans hf
      refine lv_lookup (tgt := 221) (off := 151) C.1 C.2.1 dX11_works_70 rfl (by rw [c35]; rfl) rfl ?_
      refine lv_lload_n C.1 C.2.1 dX11_works_221 rfl (lv_at hl 1 rfl) ?_
      refine lv_lconst C.1 C.2.1 dX11_works_222 lc_0 ?_
      refine W.lcmp C.1 C.2.1 dX11_works_223 ?_
      refine lv_if_ne (tgt := 229) C.1 C.2.1 dX11_works_224 rfl (fun c36 => ?_) (fun c36 => ?_)
      · have hf := (if_neg c36).symm.trans hf
        refine lv_lload C.1 C.2.1 dX11_works_229 (lv_at hl 0 rfl) ?_
        refine lv_lload_n C.1 C.2.1 dX11_works_231 rfl (lv_at hl 1 rfl) ?_
        obtain ⟨hz37, hf⟩ := nz hf
        refine lv_ldiv C.1 C.2.1 dX11_works_232 hz37 ?_
        refine lv_lstore (lv' := [(6, .long ((gJ S (gR S a0 41) ((gI S a0 42) - (2 : Int32)).toNatClampNeg) / (gJ S (gR S a0 41) ((gI S a0 42) - (1 : Int32)).toNatClampNeg))), (4, .long (gJ S (gR S a0 41) ((gI S a0 42) - (2 : Int32)).toNatClampNeg)), (2, .long (gJ S (gR S a0 41) ((gI S a0 42) - (1 : Int32)).toNatClampNeg)), (0, .ref (ad L a0)), (1, .int a1)]) C.1 C.2.1 dX11_works_233 hl (by decide) rfl (fun ls hl => ?_)
        refine lv_goto (tgt := 407) C.1 C.2.1 dX11_works_235 rfl ?_
        exact kX11_works_407  C a0 ((gJ S (gR S a0 41) ((gI S a0 42) - (2 : Int32)).toNatClampNeg) / (gJ S (gR S a0 41) ((gI S a0 42) - (1 : Int32)).toNatClampNeg)) _ _ _ _ ha0 hW (lv_sub hl [3, 0] rfl) hf
      · have hf := (if_pos c36).symm.trans hf
        refine lv_iconst C.1 C.2.1 dX11_works_227 ic_0 ?_
        cases hf
        exact m_zret C hW rfl dX11_works_228
    have hf := (if_neg c35).symm.trans hf
    by_cases c38 : a1 = (60 : Int32)
    · have hf := (if_pos c38).symm.trans hf
      refine lv_lookup (tgt := 238) (off := 168) C.1 C.2.1 dX11_works_70 rfl (by rw [c38]; rfl) rfl ?_
      refine lv_lload C.1 C.2.1 dX11_works_238 (lv_at hl 0 rfl) ?_
      refine lv_lload_n C.1 C.2.1 dX11_works_240 rfl (lv_at hl 1 rfl) ?_
      refine W.lcmp C.1 C.2.1 dX11_works_241 ?_
      refine lv_if_ge (tgt := 249) C.1 C.2.1 dX11_works_242 rfl (fun c39 => ?_) (fun c39 => ?_)
      · have hf := (if_pos c39).symm.trans hf
        refine lv_iconst C.1 C.2.1 dX11_works_249 ic_0 ?_
        exact kX11_works_250  C a0 (0 : Int32) _ _ _ _ ha0 hW (lv_sub hl [2] rfl) hf
      · have hf := (if_neg c39).symm.trans hf
        refine lv_iconst C.1 C.2.1 dX11_works_245 ic_1 ?_
        refine lv_goto (tgt := 250) C.1 C.2.1 dX11_works_246 rfl ?_
        exact kX11_works_250  C a0 (1 : Int32) _ _ _ _ ha0 hW (lv_sub hl [2] rfl) hf
    have hf := (if_neg c38).symm.trans hf
    by_cases c40 : a1 = (61 : Int32)
    · have hf := (if_pos c40).symm.trans hf
      refine lv_lookup (tgt := 278) (off := 208) C.1 C.2.1 dX11_works_70 rfl (by rw [c40]; rfl) rfl ?_
      refine lv_lload C.1 C.2.1 dX11_works_278 (lv_at hl 0 rfl) ?_
      refine lv_lload_n C.1 C.2.1 dX11_works_280 rfl (lv_at hl 1 rfl) ?_
      refine W.lcmp C.1 C.2.1 dX11_works_281 ?_
      refine lv_if_ne (tgt := 289) C.1 C.2.1 dX11_works_282 rfl (fun c41 => ?_) (fun c41 => ?_)
      · have hf := (if_neg c41).symm.trans hf
        refine lv_iconst C.1 C.2.1 dX11_works_289 ic_0 ?_
        exact kX11_works_290  C a0 (0 : Int32) _ _ _ _ ha0 hW (lv_sub hl [2] rfl) hf
      · have hf := (if_pos c41).symm.trans hf
        refine lv_iconst C.1 C.2.1 dX11_works_285 ic_1 ?_
        refine lv_goto (tgt := 290) C.1 C.2.1 dX11_works_286 rfl ?_
        exact kX11_works_290  C a0 (1 : Int32) _ _ _ _ ha0 hW (lv_sub hl [2] rfl) hf
    have hf := (if_neg c40).symm.trans hf
    by_cases c42 : a1 = (62 : Int32)
    · have hf := (if_pos c42).symm.trans hf
      refine lv_lookup (tgt := 258) (off := 188) C.1 C.2.1 dX11_works_70 rfl (by rw [c42]; rfl) rfl ?_
      refine lv_lload C.1 C.2.1 dX11_works_258 (lv_at hl 0 rfl) ?_
      refine lv_lload_n C.1 C.2.1 dX11_works_260 rfl (lv_at hl 1 rfl) ?_
      refine W.lcmp C.1 C.2.1 dX11_works_261 ?_
      refine lv_if_le (tgt := 269) C.1 C.2.1 dX11_works_262 rfl (fun c43 => ?_) (fun c43 => ?_)
      · have hf := (if_pos c43).symm.trans hf
        refine lv_iconst C.1 C.2.1 dX11_works_269 ic_0 ?_
        exact kX11_works_270  C a0 (0 : Int32) _ _ _ _ ha0 hW (lv_sub hl [2] rfl) hf
      · have hf := (if_neg c43).symm.trans hf
        refine lv_iconst C.1 C.2.1 dX11_works_265 ic_1 ?_
        refine lv_goto (tgt := 270) C.1 C.2.1 dX11_works_266 rfl ?_
        exact kX11_works_270  C a0 (1 : Int32) _ _ _ _ ha0 hW (lv_sub hl [2] rfl) hf
    have hf := (if_neg c42).symm.trans hf
    by_cases c44 : a1 = (256 : Int32)
    · have hf := (if_pos c44).symm.trans hf
      refine lv_lookup (tgt := 298) (off := 228) C.1 C.2.1 dX11_works_70 rfl (by rw [c44]; rfl) rfl ?_
      refine lv_lload C.1 C.2.1 dX11_works_298 (lv_at hl 0 rfl) ?_
      refine lv_lload_n C.1 C.2.1 dX11_works_300 rfl (lv_at hl 1 rfl) ?_
      refine W.lcmp C.1 C.2.1 dX11_works_301 ?_
      refine lv_if_gt (tgt := 309) C.1 C.2.1 dX11_works_302 rfl (fun c45 => ?_) (fun c45 => ?_)
      · have hf := (if_pos c45).symm.trans hf
        refine lv_iconst C.1 C.2.1 dX11_works_309 ic_0 ?_
        exact kX11_works_310  C a0 (0 : Int32) _ _ _ _ ha0 hW (lv_sub hl [2] rfl) hf
      · have hf := (if_neg c45).symm.trans hf
        refine lv_iconst C.1 C.2.1 dX11_works_305 ic_1 ?_
        refine lv_goto (tgt := 310) C.1 C.2.1 dX11_works_306 rfl ?_
        exact kX11_works_310  C a0 (1 : Int32) _ _ _ _ ha0 hW (lv_sub hl [2] rfl) hf
    have hf := (if_neg c44).symm.trans hf
    by_cases c46 : a1 = (257 : Int32)
    · have hf := (if_pos c46).symm.trans hf
      refine lv_lookup (tgt := 338) (off := 268) C.1 C.2.1 dX11_works_70 rfl (by rw [c46]; rfl) rfl ?_
      refine lv_lload C.1 C.2.1 dX11_works_338 (lv_at hl 0 rfl) ?_
      refine lv_lload_n C.1 C.2.1 dX11_works_340 rfl (lv_at hl 1 rfl) ?_
      refine W.lcmp C.1 C.2.1 dX11_works_341 ?_
      refine lv_if_eq (tgt := 349) C.1 C.2.1 dX11_works_342 rfl (fun c47 => ?_) (fun c47 => ?_)
      · have hf := (if_pos c47).symm.trans hf
        refine lv_iconst C.1 C.2.1 dX11_works_349 ic_0 ?_
        exact kX11_works_350  C a0 (0 : Int32) _ _ _ _ ha0 hW (lv_sub hl [2] rfl) hf
      · have hf := (if_neg c47).symm.trans hf
        refine lv_iconst C.1 C.2.1 dX11_works_345 ic_1 ?_
        refine lv_goto (tgt := 350) C.1 C.2.1 dX11_works_346 rfl ?_
        exact kX11_works_350  C a0 (1 : Int32) _ _ _ _ ha0 hW (lv_sub hl [2] rfl) hf
    have hf := (if_neg c46).symm.trans hf
    by_cases c48 : a1 = (258 : Int32)
    · have hf := (if_pos c48).symm.trans hf
      refine lv_lookup (tgt := 318) (off := 248) C.1 C.2.1 dX11_works_70 rfl (by rw [c48]; rfl) rfl ?_
      refine lv_lload C.1 C.2.1 dX11_works_318 (lv_at hl 0 rfl) ?_
      refine lv_lload_n C.1 C.2.1 dX11_works_320 rfl (lv_at hl 1 rfl) ?_
      refine W.lcmp C.1 C.2.1 dX11_works_321 ?_
      refine lv_if_lt (tgt := 329) C.1 C.2.1 dX11_works_322 rfl (fun c49 => ?_) (fun c49 => ?_)
      · have hf := (if_pos c49).symm.trans hf
        refine lv_iconst C.1 C.2.1 dX11_works_329 ic_0 ?_
        exact kX11_works_330  C a0 (0 : Int32) _ _ _ _ ha0 hW (lv_sub hl [2] rfl) hf
      · have hf := (if_neg c49).symm.trans hf
        refine lv_iconst C.1 C.2.1 dX11_works_325 ic_1 ?_
        refine lv_goto (tgt := 330) C.1 C.2.1 dX11_works_326 rfl ?_
        exact kX11_works_330  C a0 (1 : Int32) _ _ _ _ ha0 hW (lv_sub hl [2] rfl) hf
    have hf := (if_neg c48).symm.trans hf
    by_cases c50 : a1 = (261 : Int32)
    · have hf := (if_pos c50).symm.trans hf
      refine lv_lookup (tgt := 358) (off := 288) C.1 C.2.1 dX11_works_70 rfl (by rw [c50]; rfl) rfl ?_
      refine lv_lload C.1 C.2.1 dX11_works_358 (lv_at hl 0 rfl) ?_
      refine lv_lconst C.1 C.2.1 dX11_works_360 lc_0 ?_
      refine W.lcmp C.1 C.2.1 dX11_works_361 ?_
      refine lv_if_eq (tgt := 375) C.1 C.2.1 dX11_works_362 rfl (fun c51 => ?_) (fun c51 => ?_)
      · have hf := (if_pos c51).symm.trans hf
        exact kX11_works_375  C a0 _ _ _ _ ha0 hW (lv_sub hl [2] rfl) hf
      · have hf := (if_neg c51).symm.trans hf
        refine lv_lload_n C.1 C.2.1 dX11_works_365 rfl (lv_at hl 1 rfl) ?_
        refine lv_lconst C.1 C.2.1 dX11_works_366 lc_0 ?_
        refine W.lcmp C.1 C.2.1 dX11_works_367 ?_
        refine lv_if_eq (tgt := 375) C.1 C.2.1 dX11_works_368 rfl (fun c52 => ?_) (fun c52 => ?_)
        · have hf := (if_pos c52).symm.trans hf
          exact kX11_works_375  C a0 _ _ _ _ ha0 hW (lv_sub hl [2] rfl) hf
        · have hf := (if_neg c52).symm.trans hf
          refine lv_iconst C.1 C.2.1 dX11_works_371 ic_1 ?_
          refine lv_goto (tgt := 376) C.1 C.2.1 dX11_works_372 rfl ?_
          exact kX11_works_376  C a0 (1 : Int32) _ _ _ _ ha0 hW (lv_sub hl [2] rfl) hf
    have hf := (if_neg c50).symm.trans hf
    refine lv_lookup (tgt := 384) (off := 314) C.1 C.2.1 dX11_works_70 rfl (by have e0 := tn_e c29 (42) (by decide); have e1 := tn_e c33 (43) (by decide); have e2 := tn_e c34 (45) (by decide); have e3 := tn_e c35 (47) (by decide); have e4 := tn_e c38 (60) (by decide); have e5 := tn_e c40 (61) (by decide); have e6 := tn_e c42 (62) (by decide); have e7 := tn_e c44 (256) (by decide); have e8 := tn_e c46 (257) (by decide); have e9 := tn_e c48 (258) (by decide); have e10 := tn_e c50 (261) (by decide); simp [Op.lookupswitch.offset, e0, Ne.symm e0, e1, Ne.symm e1, e2, Ne.symm e2, e3, Ne.symm e3, e4, Ne.symm e4, e5, Ne.symm e5, e6, Ne.symm e6, e7, Ne.symm e7, e8, Ne.symm e8, e9, Ne.symm e9, e10, Ne.symm e10]) rfl ?_
    refine lv_lload C.1 C.2.1 dX11_works_384 (lv_at hl 0 rfl) ?_
    refine lv_lconst C.1 C.2.1 dX11_works_386 lc_0 ?_
    refine W.lcmp C.1 C.2.1 dX11_works_387 ?_
    refine lv_if_ne (tgt := 397) C.1 C.2.1 dX11_works_388 rfl (fun c53 => ?_) (fun c53 => ?_)
    · have hf := (if_neg c53).symm.trans hf
      exact kX11_works_397  C a0 _ _ _ _ ha0 hW (lv_sub hl [2] rfl) hf
    · have hf := (if_pos c53).symm.trans hf
      refine lv_lload_n C.1 C.2.1 dX11_works_391 rfl (lv_at hl 1 rfl) ?_
      refine lv_lconst C.1 C.2.1 dX11_works_392 lc_0 ?_
      refine W.lcmp C.1 C.2.1 dX11_works_393 ?_
      refine lv_if_eq (tgt := 401) C.1 C.2.1 dX11_works_394 rfl (fun c54 => ?_) (fun c54 => ?_)
      · have hf := (if_pos c54).symm.trans hf
        refine lv_iconst C.1 C.2.1 dX11_works_401 ic_0 ?_
        exact kX11_works_402  C a0 (0 : Int32) _ _ _ _ ha0 hW (lv_sub hl [2] rfl) hf
      · have hf := (if_neg c54).symm.trans hf
        exact kX11_works_397  C a0 _ _ _ _ ha0 hW (lv_sub hl [2] rfl) hf
  · have hf := (if_pos c26).symm.trans hf
    refine lv_aload_n C.1 C.2.1 dX11_works_19 rfl (lv_at hl 1 rfl) ?_
    refine m_getr C hW ha0 flX11_90 (by decide) dX11_works_20 (fun hk55 => ?_)
    refine lv_aload_n C.1 C.2.1 dX11_works_23 rfl (lv_at hl 1 rfl) ?_
    refine m_geti C hW ha0 flX11_338 dX11_works_24 ?_
    refine lv_iconst C.1 C.2.1 dX11_works_27 ic_1 ?_
    refine lv_isub C.1 C.2.1 dX11_works_28 ?_
    refine lv_lload_n C.1 C.2.1 dX11_works_29 rfl (lv_at hl 0 rfl) ?_
    refine lv_lconst C.1 C.2.1 dX11_works_30 lc_0 ?_
    refine W.lcmp C.1 C.2.1 dX11_works_31 ?_
    refine lv_if_ne (tgt := 39) C.1 C.2.1 dX11_works_32 rfl (fun c56 => ?_) (fun c56 => ?_)
    · have hf := (if_neg c56).symm.trans hf
      refine lv_iconst C.1 C.2.1 dX11_works_39 ic_0 ?_
      exact kX11_works_40  C (gR S a0 41) ((gI S a0 42) - (1 : Int32)) (0 : Int32) _ _ _ _ hk55 hW (lv_sub hl [] rfl) hf
    · have hf := (if_pos c56).symm.trans hf
      refine lv_iconst C.1 C.2.1 dX11_works_35 ic_1 ?_
      refine lv_goto (tgt := 40) C.1 C.2.1 dX11_works_36 rfl ?_
      exact kX11_works_40  C (gR S a0 41) ((gI S a0 42) - (1 : Int32)) (1 : Int32) _ _ _ _ hk55 hW (lv_sub hl [] rfl) hf

def fX11_begins (a0 : Nat) (S : MS) : Option MS := (fX11_starts  a0 (0 : Int32) S).bind fun q1 => some q1
set_option maxRecDepth 100000 in
theorem cX11_begins_ok {l : Launch} {G : Gv} {L : List Nat} {S : MS} {a0 : Nat} {q : MS} (ha0 : a0 < shM.1 ∧ shM.2.1 a0 = 11) (hf : fX11_begins a0 S = some q) : Mt l yX11_begins cX11_begins 1 none (2) G shM L S [.ref (ad L a0)] none q := by
  refine m_enter (lv := [(0, .ref (ad L a0))]) (plainFor_of_name (by decide)) (Nat.le_of_ble_eq_true rfl) rfl ?_
  intro p e s m below meth c A ls C hW hl
  unfold fX11_begins at hf
  refine lv_aload_n C.1 C.2.1 dX11_begins_0 rfl (lv_at hl 0 rfl) ?_
  refine lv_iconst C.1 C.2.1 dX11_begins_1 ic_0 ?_
  obtain ⟨q1, h2, hf⟩ := bd hf
  refine m_callV (As := [.int (0 : Int32)]) (rest := []) C hW ha0 (cX11_starts_ok  ha0 h2) mlX11_358 (by decide) rfl hl.1 rfl (Nat.le_of_ble_eq_true rfl) (Nat.le_of_ble_eq_true rfl) (Nat.le_of_ble_eq_true rfl) dX11_begins_2 (fun H locs hW => ?_)
  cases hf
  exact m_vret C hW dX11_begins_5

def fX11_isWall (a0 : Nat) (a1 : Int32) (a2 : Int32) (S : MS) : Option Int32 := (if bnd (4 : Int32) (lnM (gR S a0 3)) = true then (fX11_found  (gR S a0 4) (0 : Int32) (gI S (gR S a0 3) (4 : Int32).toNatClampNeg) (((8 : Int32) * a1) + a2) S).bind fun q4 => (if q4 = (-1 : Int32) then some (0 : Int32) else some (1 : Int32)) else none)
set_option maxRecDepth 100000 in
theorem cX11_isWall_ok {l : Launch} {G : Gv} {L : List Nat} {S : MS} {a0 : Nat} {a1 : Int32} {a2 : Int32} {q : Int32} (ha0 : a0 < shM.1 ∧ shM.2.1 a0 = 11) (hf : fX11_isWall a0 a1 a2 S = some q) : Mt l yX11_isWall cX11_isWall 3 (some .boolean) (2) G shM L S [.ref (ad L a0), .int a1, .int a2] (some (.int q)) S := by
  refine m_enter (lv := [(0, .ref (ad L a0)), (1, .int a1), (2, .int a2)]) (plainFor_of_name (by decide)) (Nat.le_of_ble_eq_true rfl) rfl ?_
  intro p e s m below meth c A ls C hW hl
  unfold fX11_isWall at hf
  refine lv_aload_n C.1 C.2.1 dX11_isWall_0 rfl (lv_at hl 0 rfl) ?_
  refine m_getr C hW ha0 flX11_16 (by decide) dX11_isWall_1 (fun hk1 => ?_)
  refine lv_iconst C.1 C.2.1 dX11_isWall_4 ic_0 ?_
  refine lv_aload_n C.1 C.2.1 dX11_isWall_5 rfl (lv_at hl 0 rfl) ?_
  refine m_getr C hW ha0 flX11_13 (by decide) dX11_isWall_6 (fun hk2 => ?_)
  refine lv_iconst C.1 C.2.1 dX11_isWall_9 ic_4 ?_
  obtain ⟨hb3, hf⟩ := gd hf
  refine m_iald C hW hk2 hb3 dX11_isWall_10 ?_
  refine lv_bipush C.1 C.2.1 dX11_isWall_11 bp_8 ?_
  refine lv_iload_n C.1 C.2.1 dX11_isWall_13 rfl (lv_at hl 1 rfl) ?_
  refine lv_imul C.1 C.2.1 dX11_isWall_14 ?_
  refine lv_iload_n C.1 C.2.1 dX11_isWall_15 rfl (lv_at hl 2 rfl) ?_
  refine lv_iadd C.1 C.2.1 dX11_isWall_16 ?_
  obtain ⟨q4, h5, hf⟩ := bd hf
  refine m_callS (As := [.ref (ad L (gR S a0 4)), .int (0 : Int32), .int (gI S (gR S a0 3) (4 : Int32).toNatClampNeg), .int (((8 : Int32) * a1) + a2)]) (rest := []) C hW (cX11_found_ok  hk1 h5) mlX11_229 rfl hl.1 rfl (Nat.le_of_ble_eq_true rfl) (Nat.le_of_ble_eq_true rfl) (Nat.le_of_ble_eq_true rfl) dX11_isWall_17 (fun H locs hW => ?_)
  refine lv_iconst C.1 C.2.1 dX11_isWall_20 ic_m1 ?_
  refine lv_icmp_eq (tgt := 28) C.1 C.2.1 dX11_isWall_21 rfl (fun c6 => ?_) (fun c6 => ?_)
  · have hf := (if_pos c6).symm.trans hf
    refine lv_iconst C.1 C.2.1 dX11_isWall_28 ic_0 ?_
    cases hf
    exact m_zret C hW rfl dX11_isWall_29
  · have hf := (if_neg c6).symm.trans hf
    refine lv_iconst C.1 C.2.1 dX11_isWall_24 ic_1 ?_
    refine lv_goto (tgt := 29) C.1 C.2.1 dX11_isWall_25 rfl ?_
    cases hf
    exact m_zret C hW rfl dX11_isWall_29

def fX11_calls_70  (x0 : Nat) (x5 : Int32) (S : MS) : Option MS := (if bnd (6 : Int32) (lnM (gR S x0 40)) = true then some (pJ S (gR S x0 40) ((6 : Int32).toNatClampNeg) x5.toInt64) else none)
def fX11_calls_41  (x0 : Nat) (x1 : Int32) (x5 : Int32) (S : MS) : Option MS := (if bnd x1 (lnM (gR S x0 48)) = true then (if bnd (4 : Int32) (lnM (gR S x0 40)) = true then (if bnd x1 (lnM (gR (pJ S (gR S x0 40) ((4 : Int32).toNatClampNeg) ((gI S (gR S x0 48) x1.toNatClampNeg).toInt64)) x0 50)) = true then (fX11_bitsOf  (gI (pJ S (gR S x0 40) ((4 : Int32).toNatClampNeg) ((gI S (gR S x0 48) x1.toNatClampNeg).toInt64)) (gR (pJ S (gR S x0 40) ((4 : Int32).toNatClampNeg) ((gI S (gR S x0 48) x1.toNatClampNeg).toInt64)) x0 50) x1.toNatClampNeg) (pJ S (gR S x0 40) ((4 : Int32).toNatClampNeg) ((gI S (gR S x0 48) x1.toNatClampNeg).toInt64))).bind fun q10 => (if bnd (5 : Int32) (lnM (gR (pJ S (gR S x0 40) ((4 : Int32).toNatClampNeg) ((gI S (gR S x0 48) x1.toNatClampNeg).toInt64)) x0 40)) = true then fX11_calls_70  x0 x5 (pJ (pJ S (gR S x0 40) ((4 : Int32).toNatClampNeg) ((gI S (gR S x0 48) x1.toNatClampNeg).toInt64)) (gR (pJ S (gR S x0 40) ((4 : Int32).toNatClampNeg) ((gI S (gR S x0 48) x1.toNatClampNeg).toInt64)) x0 40) ((5 : Int32).toNatClampNeg) q10.toInt64) else none) else none) else none) else none)
def fX11_calls_16  (x0 : Nat) (x1 : Int32) (x4 : Int32) (x5 : Int32) (S : MS) : Option MS := (if bnd (2 : Int32) (lnM (gR S x0 40)) = true then (if bnd x1 (lnM (gR (pJ S (gR S x0 40) ((2 : Int32).toNatClampNeg) x4.toInt64) x0 51)) = true then (fX11_bitsOf  (gI (pJ S (gR S x0 40) ((2 : Int32).toNatClampNeg) x4.toInt64) (gR (pJ S (gR S x0 40) ((2 : Int32).toNatClampNeg) x4.toInt64) x0 51) x1.toNatClampNeg) (pJ S (gR S x0 40) ((2 : Int32).toNatClampNeg) x4.toInt64)).bind fun q18 => (if bnd (3 : Int32) (lnM (gR (pJ S (gR S x0 40) ((2 : Int32).toNatClampNeg) x4.toInt64) x0 40)) = true then fX11_calls_41  x0 x1 x5 (pJ (pJ S (gR S x0 40) ((2 : Int32).toNatClampNeg) x4.toInt64) (gR (pJ S (gR S x0 40) ((2 : Int32).toNatClampNeg) x4.toInt64) x0 40) ((3 : Int32).toNatClampNeg) q18.toInt64) else none) else none) else none)
def fX11_calls (a0 : Nat) (a1 : Int32) (a2 : Int32) (a3 : Int32) (a4 : Int32) (a5 : Int32) (S : MS) : Option MS := (if bnd (0 : Int32) (lnM (gR S a0 40)) = true then (if bnd (1 : Int32) (lnM (gR (pJ S (gR S a0 40) ((0 : Int32).toNatClampNeg) a2.toInt64) a0 40)) = true then fX11_calls_16  a0 a1 a4 a5 (pJ (pJ S (gR S a0 40) ((0 : Int32).toNatClampNeg) a2.toInt64) (gR (pJ S (gR S a0 40) ((0 : Int32).toNatClampNeg) a2.toInt64) a0 40) ((1 : Int32).toNatClampNeg) a3.toInt64) else none) else none)
set_option maxRecDepth 100000 in
theorem kX11_calls_70 {p : Program} {l : Launch} {e : Env} {s : State} {m : MethodId} {av : Array Value} {below : List Frame} {meth : Method} {c : Code} {A : Nat → Prop} {G : Gv} {L : List Nat} {q : MS}  (C : mC p s m av meth c cX11_calls RX11 6 none) : ∀ (x0 : Nat) (x5 : Int32) (S : MS) (H : Heap) (locs : List Loc) (ls : Array Slot), (x0 < shM.1 ∧ shM.2.1 x0 = 11) → mW G shM L S A s H locs → lv_has ls 6 [(0, .ref (ad L x0)), (5, .int x5)] → fX11_calls_70  x0 x5 S = some q → W p l e (rmd (2)) s m av below meth c H locs 0 0 (MQ below (mQ G shM L q none A) av s 0 0 A) (F0 m 70 ls []) := by
  intro x0 x5 S H locs ls hx0 hW hl hf
  unfold fX11_calls_70 at hf
  refine lv_aload_n C.1 C.2.1 dX11_calls_70 rfl (lv_at hl 0 rfl) ?_
  refine m_getr C hW hx0 flX11_86 (by decide) dX11_calls_71 (fun hk1 => ?_)
  refine lv_bipush C.1 C.2.1 dX11_calls_74 bp_6 ?_
  refine lv_iload C.1 C.2.1 dX11_calls_76 (lv_at hl 1 rfl) ?_
  refine lv_i2l C.1 C.2.1 dX11_calls_78 rfl ?_
  obtain ⟨hb2, hf⟩ := gd hf
  refine m_last C hW hk1 hb2 dX11_calls_79 (fun H locs hW => ?_)
  cases hf
  exact m_vret C hW dX11_calls_80

set_option maxRecDepth 100000 in
theorem kX11_calls_41 {p : Program} {l : Launch} {e : Env} {s : State} {m : MethodId} {av : Array Value} {below : List Frame} {meth : Method} {c : Code} {A : Nat → Prop} {G : Gv} {L : List Nat} {q : MS}  (C : mC p s m av meth c cX11_calls RX11 6 none) : ∀ (x0 : Nat) (x1 : Int32) (x5 : Int32) (S : MS) (H : Heap) (locs : List Loc) (ls : Array Slot), (x0 < shM.1 ∧ shM.2.1 x0 = 11) → mW G shM L S A s H locs → lv_has ls 6 [(0, .ref (ad L x0)), (1, .int x1), (5, .int x5)] → fX11_calls_41  x0 x1 x5 S = some q → W p l e (rmd (2)) s m av below meth c H locs 0 0 (MQ below (mQ G shM L q none A) av s 0 0 A) (F0 m 41 ls []) := by
  intro x0 x1 x5 S H locs ls hx0 hW hl hf
  unfold fX11_calls_41 at hf
  refine lv_aload_n C.1 C.2.1 dX11_calls_41 rfl (lv_at hl 0 rfl) ?_
  refine m_getr C hW hx0 flX11_86 (by decide) dX11_calls_42 (fun hk3 => ?_)
  refine lv_iconst C.1 C.2.1 dX11_calls_45 ic_4 ?_
  refine lv_aload_n C.1 C.2.1 dX11_calls_46 rfl (lv_at hl 0 rfl) ?_
  refine m_getr C hW hx0 flX11_108 (by decide) dX11_calls_47 (fun hk4 => ?_)
  refine lv_iload_n C.1 C.2.1 dX11_calls_50 rfl (lv_at hl 1 rfl) ?_
  obtain ⟨hb5, hf⟩ := gd hf
  refine m_iald C hW hk4 hb5 dX11_calls_51 ?_
  refine lv_i2l C.1 C.2.1 dX11_calls_52 rfl ?_
  obtain ⟨hb6, hf⟩ := gd hf
  refine m_last C hW hk3 hb6 dX11_calls_53 (fun H locs hW => ?_)
  refine lv_aload_n C.1 C.2.1 dX11_calls_54 rfl (lv_at hl 0 rfl) ?_
  refine m_getr C hW hx0 flX11_86 (by decide) dX11_calls_55 (fun hk7 => ?_)
  refine lv_iconst C.1 C.2.1 dX11_calls_58 ic_5 ?_
  refine lv_aload_n C.1 C.2.1 dX11_calls_59 rfl (lv_at hl 0 rfl) ?_
  refine m_getr C hW hx0 flX11_114 (by decide) dX11_calls_60 (fun hk8 => ?_)
  refine lv_iload_n C.1 C.2.1 dX11_calls_63 rfl (lv_at hl 1 rfl) ?_
  obtain ⟨hb9, hf⟩ := gd hf
  refine m_iald C hW hk8 hb9 dX11_calls_64 ?_
  obtain ⟨q10, h11, hf⟩ := bd hf
  refine m_callS (As := [.int (gI (pJ S (gR S x0 40) ((4 : Int32).toNatClampNeg) ((gI S (gR S x0 48) x1.toNatClampNeg).toInt64)) (gR (pJ S (gR S x0 40) ((4 : Int32).toNatClampNeg) ((gI S (gR S x0 48) x1.toNatClampNeg).toInt64)) x0 50) x1.toNatClampNeg)]) (rest := [.int (5 : Int32), .ref (ad L (gR (pJ S (gR S x0 40) ((4 : Int32).toNatClampNeg) ((gI S (gR S x0 48) x1.toNatClampNeg).toInt64)) x0 40))]) C hW (cX11_bitsOf_ok   h11) mlX11_361 rfl hl.1 rfl (Nat.le_of_ble_eq_true rfl) (Nat.le_of_ble_eq_true rfl) (Nat.le_of_ble_eq_true rfl) dX11_calls_65 (fun H locs hW => ?_)
  refine lv_i2l C.1 C.2.1 dX11_calls_68 rfl ?_
  obtain ⟨hb12, hf⟩ := gd hf
  refine m_last C hW hk7 hb12 dX11_calls_69 (fun H locs hW => ?_)
  exact kX11_calls_70  C x0 x5 _ _ _ _ hx0 hW (lv_sub hl [0, 2] rfl) hf

set_option maxRecDepth 100000 in
theorem kX11_calls_16 {p : Program} {l : Launch} {e : Env} {s : State} {m : MethodId} {av : Array Value} {below : List Frame} {meth : Method} {c : Code} {A : Nat → Prop} {G : Gv} {L : List Nat} {q : MS}  (C : mC p s m av meth c cX11_calls RX11 6 none) : ∀ (x0 : Nat) (x1 : Int32) (x4 : Int32) (x5 : Int32) (S : MS) (H : Heap) (locs : List Loc) (ls : Array Slot), (x0 < shM.1 ∧ shM.2.1 x0 = 11) → mW G shM L S A s H locs → lv_has ls 6 [(0, .ref (ad L x0)), (1, .int x1), (4, .int x4), (5, .int x5)] → fX11_calls_16  x0 x1 x4 x5 S = some q → W p l e (rmd (2)) s m av below meth c H locs 0 0 (MQ below (mQ G shM L q none A) av s 0 0 A) (F0 m 16 ls []) := by
  intro x0 x1 x4 x5 S H locs ls hx0 hW hl hf
  unfold fX11_calls_16 at hf
  refine lv_aload_n C.1 C.2.1 dX11_calls_16 rfl (lv_at hl 0 rfl) ?_
  refine m_getr C hW hx0 flX11_86 (by decide) dX11_calls_17 (fun hk13 => ?_)
  refine lv_iconst C.1 C.2.1 dX11_calls_20 ic_2 ?_
  refine lv_iload C.1 C.2.1 dX11_calls_21 (lv_at hl 2 rfl) ?_
  refine lv_i2l C.1 C.2.1 dX11_calls_23 rfl ?_
  obtain ⟨hb14, hf⟩ := gd hf
  refine m_last C hW hk13 hb14 dX11_calls_24 (fun H locs hW => ?_)
  refine lv_aload_n C.1 C.2.1 dX11_calls_25 rfl (lv_at hl 0 rfl) ?_
  refine m_getr C hW hx0 flX11_86 (by decide) dX11_calls_26 (fun hk15 => ?_)
  refine lv_iconst C.1 C.2.1 dX11_calls_29 ic_3 ?_
  refine lv_aload_n C.1 C.2.1 dX11_calls_30 rfl (lv_at hl 0 rfl) ?_
  refine m_getr C hW hx0 flX11_117 (by decide) dX11_calls_31 (fun hk16 => ?_)
  refine lv_iload_n C.1 C.2.1 dX11_calls_34 rfl (lv_at hl 1 rfl) ?_
  obtain ⟨hb17, hf⟩ := gd hf
  refine m_iald C hW hk16 hb17 dX11_calls_35 ?_
  obtain ⟨q18, h19, hf⟩ := bd hf
  refine m_callS (As := [.int (gI (pJ S (gR S x0 40) ((2 : Int32).toNatClampNeg) x4.toInt64) (gR (pJ S (gR S x0 40) ((2 : Int32).toNatClampNeg) x4.toInt64) x0 51) x1.toNatClampNeg)]) (rest := [.int (3 : Int32), .ref (ad L (gR (pJ S (gR S x0 40) ((2 : Int32).toNatClampNeg) x4.toInt64) x0 40))]) C hW (cX11_bitsOf_ok   h19) mlX11_361 rfl hl.1 rfl (Nat.le_of_ble_eq_true rfl) (Nat.le_of_ble_eq_true rfl) (Nat.le_of_ble_eq_true rfl) dX11_calls_36 (fun H locs hW => ?_)
  refine lv_i2l C.1 C.2.1 dX11_calls_39 rfl ?_
  obtain ⟨hb20, hf⟩ := gd hf
  refine m_last C hW hk15 hb20 dX11_calls_40 (fun H locs hW => ?_)
  exact kX11_calls_41  C x0 x1 x5 _ _ _ _ hx0 hW (lv_sub hl [0, 1, 3] rfl) hf

set_option maxRecDepth 100000 in
theorem cX11_calls_ok {l : Launch} {G : Gv} {L : List Nat} {S : MS} {a0 : Nat} {a1 : Int32} {a2 : Int32} {a3 : Int32} {a4 : Int32} {a5 : Int32} {q : MS} (ha0 : a0 < shM.1 ∧ shM.2.1 a0 = 11) (hf : fX11_calls a0 a1 a2 a3 a4 a5 S = some q) : Mt l yX11_calls cX11_calls 6 none (2) G shM L S [.ref (ad L a0), .int a1, .int a2, .int a3, .int a4, .int a5] none q := by
  refine m_enter (lv := [(0, .ref (ad L a0)), (1, .int a1), (2, .int a2), (3, .int a3), (4, .int a4), (5, .int a5)]) (plainFor_of_name (by decide)) (Nat.le_of_ble_eq_true rfl) rfl ?_
  intro p e s m below meth c A ls C hW hl
  unfold fX11_calls at hf
  refine lv_aload_n C.1 C.2.1 dX11_calls_0 rfl (lv_at hl 0 rfl) ?_
  refine m_getr C hW ha0 flX11_86 (by decide) dX11_calls_1 (fun hk21 => ?_)
  refine lv_iconst C.1 C.2.1 dX11_calls_4 ic_0 ?_
  refine lv_iload_n C.1 C.2.1 dX11_calls_5 rfl (lv_at hl 2 rfl) ?_
  refine lv_i2l C.1 C.2.1 dX11_calls_6 rfl ?_
  obtain ⟨hb22, hf⟩ := gd hf
  refine m_last C hW hk21 hb22 dX11_calls_7 (fun H locs hW => ?_)
  refine lv_aload_n C.1 C.2.1 dX11_calls_8 rfl (lv_at hl 0 rfl) ?_
  refine m_getr C hW ha0 flX11_86 (by decide) dX11_calls_9 (fun hk23 => ?_)
  refine lv_iconst C.1 C.2.1 dX11_calls_12 ic_1 ?_
  refine lv_iload_n C.1 C.2.1 dX11_calls_13 rfl (lv_at hl 3 rfl) ?_
  refine lv_i2l C.1 C.2.1 dX11_calls_14 rfl ?_
  obtain ⟨hb24, hf⟩ := gd hf
  refine m_last C hW hk23 hb24 dX11_calls_15 (fun H locs hW => ?_)
  exact kX11_calls_16  C a0 a1 a4 a5 _ _ _ _ ha0 hW (lv_sub hl [0, 1, 4, 5] rfl) hf

def fX11_lightFar_166  (x6 : Int32) (x7 : Int32) (S : MS) : Option (Int32 × MS) := some ((if 0 ≤ x6 then x6 else 0 - x6) + (if 0 ≤ x7 then x7 else 0 - x7), S)
def fX11_lightFar_163  (x6 : Int32) (x7 : Int32) (y0 : Nat) (y1 : Int32) (S : MS) : Option (Int32 × MS) := fX11_lightFar_166  x6 x7 (pI S y0 61 y1)
def fX11_lightFar_146  (x6 : Int32) (x7 : Int32) (y0 : Nat) (y1 : Int32) (S : MS) : Option (Int32 × MS) := fX11_lightFar_166  x6 x7 (pI S y0 61 y1)
def fX11_lightFar_122  (x0 : Nat) (x6 : Int32) (x7 : Int32) (S : MS) : Option (Int32 × MS) := (if (if 0 ≤ x6 then x6 else 0 - x6) < (if 0 ≤ x7 then x7 else 0 - x7) then (if x7 ≤ (0 : Int32) then fX11_lightFar_163  x6 x7 x0 (3 : Int32) S else fX11_lightFar_163  x6 x7 x0 (1 : Int32) S) else (if (0 : Int32) ≤ x6 then fX11_lightFar_146  x6 x7 x0 (2 : Int32) S else fX11_lightFar_146  x6 x7 x0 (0 : Int32) S))
def fX11_lightFar_63  (x0 : Nat) (x1 : Int32) (S : MS) : Option (Int32 × MS) := (fX11_lampAt  x0 x1 S).bind fun q4 => (if q4 = (-1 : Int32) then some ((0 : Int32), S) else (if bnd x1 (lnM (gR S x0 46)) = true then (if bnd q4 (lnM (gR S x0 9)) = true then (if bnd x1 (lnM (gR S x0 47)) = true then (if bnd q4 (lnM (gR S x0 10)) = true then (if (gI S (gR S x0 46) x1.toNatClampNeg) - (gI S (gR S x0 9) q4.toNatClampNeg) = (0 : Int32) then (if (gI S (gR S x0 47) x1.toNatClampNeg) - (gI S (gR S x0 10) q4.toNatClampNeg) = (0 : Int32) then some ((0 : Int32), S) else fX11_lightFar_122  x0 ((gI S (gR S x0 46) x1.toNatClampNeg) - (gI S (gR S x0 9) q4.toNatClampNeg)) ((gI S (gR S x0 47) x1.toNatClampNeg) - (gI S (gR S x0 10) q4.toNatClampNeg)) S) else fX11_lightFar_122  x0 ((gI S (gR S x0 46) x1.toNatClampNeg) - (gI S (gR S x0 9) q4.toNatClampNeg)) ((gI S (gR S x0 47) x1.toNatClampNeg) - (gI S (gR S x0 10) q4.toNatClampNeg)) S) else none) else none) else none) else none))
def fX11_lightFar_26  (x0 : Nat) (x1 : Int32) (y0 : Int32) (S : MS) : Option (Int32 × MS) := (if y0 = (-1 : Int32) then fX11_lightFar_63  x0 x1 S else (if bnd y0 (lnM (gR S x0 7)) = true then (if (gI S (gR S x0 7) y0.toNatClampNeg) ≤ (0 : Int32) then fX11_lightFar_63  x0 x1 S else (if bnd y0 (lnM (gR S x0 6)) = true then (if bnd y0 (lnM (gR (pI S x0 61 (gI S (gR S x0 6) y0.toNatClampNeg)) x0 7)) = true then some (gI (pI S x0 61 (gI S (gR S x0 6) y0.toNatClampNeg)) (gR (pI S x0 61 (gI S (gR S x0 6) y0.toNatClampNeg)) x0 7) y0.toNatClampNeg, pI S x0 61 (gI S (gR S x0 6) y0.toNatClampNeg)) else none) else none)) else none))
def fX11_lightFar_17  (x0 : Nat) (x1 : Int32) (S : MS) : Option (Int32 × MS) := fX11_lightFar_26  x0 x1 (-1 : Int32) S
def fX11_lightFar (a0 : Nat) (a1 : Int32) (a2 : Int32) (a3 : Int32) (S : MS) : Option (Int32 × MS) := (if a3 = (0 : Int32) then (if gI (pI S a0 61 (-1 : Int32)) a0 57 = (5 : Int32) then fX11_lightFar_17  a0 a1 (pI S a0 61 (-1 : Int32)) else (fX11_sunAt  a0 a2 (pI S a0 61 (-1 : Int32))).bind fun q27 => fX11_lightFar_26  a0 a1 q27 (pI S a0 61 (-1 : Int32))) else fX11_lightFar_17  a0 a1 (pI S a0 61 (-1 : Int32)))
set_option maxRecDepth 100000 in
theorem kX11_lightFar_166 {p : Program} {l : Launch} {e : Env} {s : State} {m : MethodId} {av : Array Value} {below : List Frame} {meth : Method} {c : Code} {A : Nat → Prop} {G : Gv} {L : List Nat} {q : (Int32 × MS)}  (C : mC p s m av meth c cX11_lightFar RX11 8 (some .int)) : ∀ (x6 : Int32) (x7 : Int32) (S : MS) (H : Heap) (locs : List Loc) (ls : Array Slot), mW G shM L S A s H locs → lv_has ls 8 [(6, .int x6), (7, .int x7)] → fX11_lightFar_166  x6 x7 S = some q → W p l e (rmd (2)) s m av below meth c H locs 0 0 (MQ below (mQ G shM L q.2 (some (.int q.1)) A) av s 0 0 A) (F0 m 166 ls []) := by
  intro x6 x7 S H locs ls  hW hl hf
  unfold fX11_lightFar_166 at hf
  refine lv_iload C.1 C.2.1 dX11_lightFar_166 (lv_at hl 0 rfl) ?_
  refine va_mabs C.1 C.2.1 (C.2.2.1.trans hl.1.symm) C.2.2.2.1 (C.2.2.2.2.1 _ kw_1774) (C.2.2.2.2.1 _ kw_910) (C.2.2.2.2.1 _ kw_135) (C.2.2.2.2.1 _ kw_911) (Nat.le_of_ble_eq_true rfl) (Nat.le_of_ble_eq_true rfl) (Nat.le_refl 0) (Nat.le_refl 0) dX11_lightFar_168 ?_
  refine lv_iload C.1 C.2.1 dX11_lightFar_171 (lv_at hl 1 rfl) ?_
  refine va_mabs C.1 C.2.1 (C.2.2.1.trans hl.1.symm) C.2.2.2.1 (C.2.2.2.2.1 _ kw_1774) (C.2.2.2.2.1 _ kw_910) (C.2.2.2.2.1 _ kw_135) (C.2.2.2.2.1 _ kw_911) (Nat.le_of_ble_eq_true rfl) (Nat.le_of_ble_eq_true rfl) (Nat.le_refl 0) (Nat.le_refl 0) dX11_lightFar_173 ?_
  refine lv_iadd C.1 C.2.1 dX11_lightFar_176 ?_
  cases hf
  exact m_iret C hW dX11_lightFar_177

set_option maxRecDepth 100000 in
theorem kX11_lightFar_163 {p : Program} {l : Launch} {e : Env} {s : State} {m : MethodId} {av : Array Value} {below : List Frame} {meth : Method} {c : Code} {A : Nat → Prop} {G : Gv} {L : List Nat} {q : (Int32 × MS)}  (C : mC p s m av meth c cX11_lightFar RX11 8 (some .int)) : ∀ (x6 : Int32) (x7 : Int32) (y0 : Nat) (y1 : Int32) (S : MS) (H : Heap) (locs : List Loc) (ls : Array Slot), (y0 < shM.1 ∧ shM.2.1 y0 = 11) → mW G shM L S A s H locs → lv_has ls 8 [(6, .int x6), (7, .int x7)] → fX11_lightFar_163  x6 x7 y0 y1 S = some q → W p l e (rmd (2)) s m av below meth c H locs 0 0 (MQ below (mQ G shM L q.2 (some (.int q.1)) A) av s 0 0 A) (F0 m 163 ls [.int y1, .ref (ad L y0)]) := by
  intro x6 x7 y0 y1 S H locs ls hy0 hW hl hf
  unfold fX11_lightFar_163 at hf
  refine m_puti C hW hy0 fpX11_406 dX11_lightFar_163 (fun H locs hW => ?_)
  exact kX11_lightFar_166  C x6 x7 _ _ _ _  hW (lv_sub hl [0, 1] rfl) hf

set_option maxRecDepth 100000 in
theorem kX11_lightFar_146 {p : Program} {l : Launch} {e : Env} {s : State} {m : MethodId} {av : Array Value} {below : List Frame} {meth : Method} {c : Code} {A : Nat → Prop} {G : Gv} {L : List Nat} {q : (Int32 × MS)}  (C : mC p s m av meth c cX11_lightFar RX11 8 (some .int)) : ∀ (x6 : Int32) (x7 : Int32) (y0 : Nat) (y1 : Int32) (S : MS) (H : Heap) (locs : List Loc) (ls : Array Slot), (y0 < shM.1 ∧ shM.2.1 y0 = 11) → mW G shM L S A s H locs → lv_has ls 8 [(6, .int x6), (7, .int x7)] → fX11_lightFar_146  x6 x7 y0 y1 S = some q → W p l e (rmd (2)) s m av below meth c H locs 0 0 (MQ below (mQ G shM L q.2 (some (.int q.1)) A) av s 0 0 A) (F0 m 146 ls [.int y1, .ref (ad L y0)]) := by
  intro x6 x7 y0 y1 S H locs ls hy0 hW hl hf
  unfold fX11_lightFar_146 at hf
  refine m_puti C hW hy0 fpX11_406 dX11_lightFar_146 (fun H locs hW => ?_)
  refine lv_goto (tgt := 166) C.1 C.2.1 dX11_lightFar_149 rfl ?_
  exact kX11_lightFar_166  C x6 x7 _ _ _ _  hW (lv_sub hl [0, 1] rfl) hf

set_option maxRecDepth 100000 in
theorem kX11_lightFar_122 {p : Program} {l : Launch} {e : Env} {s : State} {m : MethodId} {av : Array Value} {below : List Frame} {meth : Method} {c : Code} {A : Nat → Prop} {G : Gv} {L : List Nat} {q : (Int32 × MS)}  (C : mC p s m av meth c cX11_lightFar RX11 8 (some .int)) : ∀ (x0 : Nat) (x6 : Int32) (x7 : Int32) (S : MS) (H : Heap) (locs : List Loc) (ls : Array Slot), (x0 < shM.1 ∧ shM.2.1 x0 = 11) → mW G shM L S A s H locs → lv_has ls 8 [(0, .ref (ad L x0)), (6, .int x6), (7, .int x7)] → fX11_lightFar_122  x0 x6 x7 S = some q → W p l e (rmd (2)) s m av below meth c H locs 0 0 (MQ below (mQ G shM L q.2 (some (.int q.1)) A) av s 0 0 A) (F0 m 122 ls []) := by
  intro x0 x6 x7 S H locs ls hx0 hW hl hf
  unfold fX11_lightFar_122 at hf
  refine lv_iload C.1 C.2.1 dX11_lightFar_122 (lv_at hl 1 rfl) ?_
  refine va_mabs C.1 C.2.1 (C.2.2.1.trans hl.1.symm) C.2.2.2.1 (C.2.2.2.2.1 _ kw_1774) (C.2.2.2.2.1 _ kw_910) (C.2.2.2.2.1 _ kw_135) (C.2.2.2.2.1 _ kw_911) (Nat.le_of_ble_eq_true rfl) (Nat.le_of_ble_eq_true rfl) (Nat.le_refl 0) (Nat.le_refl 0) dX11_lightFar_124 ?_
  refine lv_iload C.1 C.2.1 dX11_lightFar_127 (lv_at hl 2 rfl) ?_
  refine va_mabs C.1 C.2.1 (C.2.2.1.trans hl.1.symm) C.2.2.2.1 (C.2.2.2.2.1 _ kw_1774) (C.2.2.2.2.1 _ kw_910) (C.2.2.2.2.1 _ kw_135) (C.2.2.2.2.1 _ kw_911) (Nat.le_of_ble_eq_true rfl) (Nat.le_of_ble_eq_true rfl) (Nat.le_refl 0) (Nat.le_refl 0) dX11_lightFar_129 ?_
  refine lv_icmp_lt (tgt := 152) C.1 C.2.1 dX11_lightFar_132 rfl (fun c1 => ?_) (fun c1 => ?_)
  · have hf := (if_pos c1).symm.trans hf
    refine lv_aload_n C.1 C.2.1 dX11_lightFar_152 rfl (lv_at hl 0 rfl) ?_
    refine lv_iload C.1 C.2.1 dX11_lightFar_153 (lv_at hl 2 rfl) ?_
    refine lv_if_le (tgt := 162) C.1 C.2.1 dX11_lightFar_155 rfl (fun c2 => ?_) (fun c2 => ?_)
    · have hf := (if_pos c2).symm.trans hf
      refine lv_iconst C.1 C.2.1 dX11_lightFar_162 ic_3 ?_
      exact kX11_lightFar_163  C x6 x7 x0 (3 : Int32) _ _ _ _ hx0 hW (lv_sub hl [1, 2] rfl) hf
    · have hf := (if_neg c2).symm.trans hf
      refine lv_iconst C.1 C.2.1 dX11_lightFar_158 ic_1 ?_
      refine lv_goto (tgt := 163) C.1 C.2.1 dX11_lightFar_159 rfl ?_
      exact kX11_lightFar_163  C x6 x7 x0 (1 : Int32) _ _ _ _ hx0 hW (lv_sub hl [1, 2] rfl) hf
  · have hf := (if_neg c1).symm.trans hf
    refine lv_aload_n C.1 C.2.1 dX11_lightFar_135 rfl (lv_at hl 0 rfl) ?_
    refine lv_iload C.1 C.2.1 dX11_lightFar_136 (lv_at hl 1 rfl) ?_
    refine lv_if_ge (tgt := 145) C.1 C.2.1 dX11_lightFar_138 rfl (fun c3 => ?_) (fun c3 => ?_)
    · have hf := (if_pos c3).symm.trans hf
      refine lv_iconst C.1 C.2.1 dX11_lightFar_145 ic_2 ?_
      exact kX11_lightFar_146  C x6 x7 x0 (2 : Int32) _ _ _ _ hx0 hW (lv_sub hl [1, 2] rfl) hf
    · have hf := (if_neg c3).symm.trans hf
      refine lv_iconst C.1 C.2.1 dX11_lightFar_141 ic_0 ?_
      refine lv_goto (tgt := 146) C.1 C.2.1 dX11_lightFar_142 rfl ?_
      exact kX11_lightFar_146  C x6 x7 x0 (0 : Int32) _ _ _ _ hx0 hW (lv_sub hl [1, 2] rfl) hf

set_option maxRecDepth 100000 in
theorem kX11_lightFar_63 {p : Program} {l : Launch} {e : Env} {s : State} {m : MethodId} {av : Array Value} {below : List Frame} {meth : Method} {c : Code} {A : Nat → Prop} {G : Gv} {L : List Nat} {q : (Int32 × MS)}  (C : mC p s m av meth c cX11_lightFar RX11 8 (some .int)) : ∀ (x0 : Nat) (x1 : Int32) (S : MS) (H : Heap) (locs : List Loc) (ls : Array Slot), (x0 < shM.1 ∧ shM.2.1 x0 = 11) → mW G shM L S A s H locs → lv_has ls 8 [(0, .ref (ad L x0)), (1, .int x1)] → fX11_lightFar_63  x0 x1 S = some q → W p l e (rmd (2)) s m av below meth c H locs 0 0 (MQ below (mQ G shM L q.2 (some (.int q.1)) A) av s 0 0 A) (F0 m 63 ls []) := by
  intro x0 x1 S H locs ls hx0 hW hl hf
  unfold fX11_lightFar_63 at hf
  refine lv_aload_n C.1 C.2.1 dX11_lightFar_63 rfl (lv_at hl 0 rfl) ?_
  refine lv_iload_n C.1 C.2.1 dX11_lightFar_64 rfl (lv_at hl 1 rfl) ?_
  obtain ⟨q4, h5, hf⟩ := bd hf
  refine m_callV (As := [.int x1]) (rest := []) C hW hx0 (cX11_lampAt_ok  hx0 h5) mlX11_415 (by decide) rfl hl.1 rfl (Nat.le_of_ble_eq_true rfl) (Nat.le_of_ble_eq_true rfl) (Nat.le_of_ble_eq_true rfl) dX11_lightFar_65 (fun H locs hW => ?_)
  refine lv_istore (lv' := [(5, .int q4), (0, .ref (ad L x0)), (1, .int x1)]) C.1 C.2.1 dX11_lightFar_68 hl (by decide) rfl (fun ls hl => ?_)
  refine lv_iload C.1 C.2.1 dX11_lightFar_70 (lv_at hl 0 rfl) ?_
  refine lv_iconst C.1 C.2.1 dX11_lightFar_72 ic_m1 ?_
  refine lv_icmp_ne (tgt := 78) C.1 C.2.1 dX11_lightFar_73 rfl (fun c6 => ?_) (fun c6 => ?_)
  · have hf := (if_neg c6).symm.trans hf
    refine lv_aload_n C.1 C.2.1 dX11_lightFar_78 rfl (lv_at hl 1 rfl) ?_
    refine m_getr C hW hx0 flX11_102 (by decide) dX11_lightFar_79 (fun hk7 => ?_)
    refine lv_iload_n C.1 C.2.1 dX11_lightFar_82 rfl (lv_at hl 2 rfl) ?_
    obtain ⟨hb8, hf⟩ := gd hf
    refine m_iald C hW hk7 hb8 dX11_lightFar_83 ?_
    refine lv_aload_n C.1 C.2.1 dX11_lightFar_84 rfl (lv_at hl 1 rfl) ?_
    refine m_getr C hW hx0 flX11_31 (by decide) dX11_lightFar_85 (fun hk9 => ?_)
    refine lv_iload C.1 C.2.1 dX11_lightFar_88 (lv_at hl 0 rfl) ?_
    obtain ⟨hb10, hf⟩ := gd hf
    refine m_iald C hW hk9 hb10 dX11_lightFar_90 ?_
    refine lv_isub C.1 C.2.1 dX11_lightFar_91 ?_
    refine lv_istore (lv' := [(6, .int ((gI S (gR S x0 46) x1.toNatClampNeg) - (gI S (gR S x0 9) q4.toNatClampNeg))), (5, .int q4), (0, .ref (ad L x0)), (1, .int x1)]) C.1 C.2.1 dX11_lightFar_92 hl (by decide) rfl (fun ls hl => ?_)
    refine lv_aload_n C.1 C.2.1 dX11_lightFar_94 rfl (lv_at hl 2 rfl) ?_
    refine m_getr C hW hx0 flX11_105 (by decide) dX11_lightFar_95 (fun hk11 => ?_)
    refine lv_iload_n C.1 C.2.1 dX11_lightFar_98 rfl (lv_at hl 3 rfl) ?_
    obtain ⟨hb12, hf⟩ := gd hf
    refine m_iald C hW hk11 hb12 dX11_lightFar_99 ?_
    refine lv_aload_n C.1 C.2.1 dX11_lightFar_100 rfl (lv_at hl 2 rfl) ?_
    refine m_getr C hW hx0 flX11_34 (by decide) dX11_lightFar_101 (fun hk13 => ?_)
    refine lv_iload C.1 C.2.1 dX11_lightFar_104 (lv_at hl 1 rfl) ?_
    obtain ⟨hb14, hf⟩ := gd hf
    refine m_iald C hW hk13 hb14 dX11_lightFar_106 ?_
    refine lv_isub C.1 C.2.1 dX11_lightFar_107 ?_
    refine lv_istore (lv' := [(7, .int ((gI S (gR S x0 47) x1.toNatClampNeg) - (gI S (gR S x0 10) q4.toNatClampNeg))), (6, .int ((gI S (gR S x0 46) x1.toNatClampNeg) - (gI S (gR S x0 9) q4.toNatClampNeg))), (5, .int q4), (0, .ref (ad L x0)), (1, .int x1)]) C.1 C.2.1 dX11_lightFar_108 hl (by decide) rfl (fun ls hl => ?_)
    refine lv_iload C.1 C.2.1 dX11_lightFar_110 (lv_at hl 1 rfl) ?_
    refine lv_if_ne (tgt := 122) C.1 C.2.1 dX11_lightFar_112 rfl (fun c15 => ?_) (fun c15 => ?_)
    · have hf := (if_neg c15).symm.trans hf
      exact kX11_lightFar_122  C x0 ((gI S (gR S x0 46) x1.toNatClampNeg) - (gI S (gR S x0 9) q4.toNatClampNeg)) ((gI S (gR S x0 47) x1.toNatClampNeg) - (gI S (gR S x0 10) q4.toNatClampNeg)) _ _ _ _ hx0 hW (lv_sub hl [3, 1, 0] rfl) hf
    · have hf := (if_pos c15).symm.trans hf
      refine lv_iload C.1 C.2.1 dX11_lightFar_115 (lv_at hl 0 rfl) ?_
      refine lv_if_ne (tgt := 122) C.1 C.2.1 dX11_lightFar_117 rfl (fun c16 => ?_) (fun c16 => ?_)
      · have hf := (if_neg c16).symm.trans hf
        exact kX11_lightFar_122  C x0 ((gI S (gR S x0 46) x1.toNatClampNeg) - (gI S (gR S x0 9) q4.toNatClampNeg)) ((gI S (gR S x0 47) x1.toNatClampNeg) - (gI S (gR S x0 10) q4.toNatClampNeg)) _ _ _ _ hx0 hW (lv_sub hl [3, 1, 0] rfl) hf
      · have hf := (if_pos c16).symm.trans hf
        refine lv_iconst C.1 C.2.1 dX11_lightFar_120 ic_0 ?_
        cases hf
        exact m_iret C hW dX11_lightFar_121
  · have hf := (if_pos c6).symm.trans hf
    refine lv_iconst C.1 C.2.1 dX11_lightFar_76 ic_0 ?_
    cases hf
    exact m_iret C hW dX11_lightFar_77

set_option maxRecDepth 100000 in
theorem kX11_lightFar_26 {p : Program} {l : Launch} {e : Env} {s : State} {m : MethodId} {av : Array Value} {below : List Frame} {meth : Method} {c : Code} {A : Nat → Prop} {G : Gv} {L : List Nat} {q : (Int32 × MS)}  (C : mC p s m av meth c cX11_lightFar RX11 8 (some .int)) : ∀ (x0 : Nat) (x1 : Int32) (y0 : Int32) (S : MS) (H : Heap) (locs : List Loc) (ls : Array Slot), (x0 < shM.1 ∧ shM.2.1 x0 = 11) → mW G shM L S A s H locs → lv_has ls 8 [(0, .ref (ad L x0)), (1, .int x1)] → fX11_lightFar_26  x0 x1 y0 S = some q → W p l e (rmd (2)) s m av below meth c H locs 0 0 (MQ below (mQ G shM L q.2 (some (.int q.1)) A) av s 0 0 A) (F0 m 26 ls [.int y0]) := by
  intro x0 x1 y0 S H locs ls hx0 hW hl hf
  unfold fX11_lightFar_26 at hf
  refine lv_istore (lv' := [(4, .int y0), (0, .ref (ad L x0)), (1, .int x1)]) C.1 C.2.1 dX11_lightFar_26 hl (by decide) rfl (fun ls hl => ?_)
  refine lv_iload C.1 C.2.1 dX11_lightFar_28 (lv_at hl 0 rfl) ?_
  refine lv_iconst C.1 C.2.1 dX11_lightFar_30 ic_m1 ?_
  refine lv_icmp_eq (tgt := 63) C.1 C.2.1 dX11_lightFar_31 rfl (fun c17 => ?_) (fun c17 => ?_)
  · have hf := (if_pos c17).symm.trans hf
    exact kX11_lightFar_63  C x0 x1 _ _ _ _ hx0 hW (lv_sub hl [1, 2] rfl) hf
  · have hf := (if_neg c17).symm.trans hf
    refine lv_aload_n C.1 C.2.1 dX11_lightFar_34 rfl (lv_at hl 1 rfl) ?_
    refine m_getr C hW hx0 flX11_25 (by decide) dX11_lightFar_35 (fun hk18 => ?_)
    refine lv_iload C.1 C.2.1 dX11_lightFar_38 (lv_at hl 0 rfl) ?_
    obtain ⟨hb19, hf⟩ := gd hf
    refine m_iald C hW hk18 hb19 dX11_lightFar_40 ?_
    refine lv_if_le (tgt := 63) C.1 C.2.1 dX11_lightFar_41 rfl (fun c20 => ?_) (fun c20 => ?_)
    · have hf := (if_pos c20).symm.trans hf
      exact kX11_lightFar_63  C x0 x1 _ _ _ _ hx0 hW (lv_sub hl [1, 2] rfl) hf
    · have hf := (if_neg c20).symm.trans hf
      refine lv_aload_n C.1 C.2.1 dX11_lightFar_44 rfl (lv_at hl 1 rfl) ?_
      refine lv_aload_n C.1 C.2.1 dX11_lightFar_45 rfl (lv_at hl 1 rfl) ?_
      refine m_getr C hW hx0 flX11_22 (by decide) dX11_lightFar_46 (fun hk21 => ?_)
      refine lv_iload C.1 C.2.1 dX11_lightFar_49 (lv_at hl 0 rfl) ?_
      obtain ⟨hb22, hf⟩ := gd hf
      refine m_iald C hW hk21 hb22 dX11_lightFar_51 ?_
      refine m_puti C hW hx0 fpX11_406 dX11_lightFar_52 (fun H locs hW => ?_)
      refine lv_aload_n C.1 C.2.1 dX11_lightFar_55 rfl (lv_at hl 1 rfl) ?_
      refine m_getr C hW hx0 flX11_25 (by decide) dX11_lightFar_56 (fun hk23 => ?_)
      refine lv_iload C.1 C.2.1 dX11_lightFar_59 (lv_at hl 0 rfl) ?_
      obtain ⟨hb24, hf⟩ := gd hf
      refine m_iald C hW hk23 hb24 dX11_lightFar_61 ?_
      cases hf
      exact m_iret C hW dX11_lightFar_62

set_option maxRecDepth 100000 in
theorem kX11_lightFar_17 {p : Program} {l : Launch} {e : Env} {s : State} {m : MethodId} {av : Array Value} {below : List Frame} {meth : Method} {c : Code} {A : Nat → Prop} {G : Gv} {L : List Nat} {q : (Int32 × MS)}  (C : mC p s m av meth c cX11_lightFar RX11 8 (some .int)) : ∀ (x0 : Nat) (x1 : Int32) (S : MS) (H : Heap) (locs : List Loc) (ls : Array Slot), (x0 < shM.1 ∧ shM.2.1 x0 = 11) → mW G shM L S A s H locs → lv_has ls 8 [(0, .ref (ad L x0)), (1, .int x1)] → fX11_lightFar_17  x0 x1 S = some q → W p l e (rmd (2)) s m av below meth c H locs 0 0 (MQ below (mQ G shM L q.2 (some (.int q.1)) A) av s 0 0 A) (F0 m 17 ls []) := by
  intro x0 x1 S H locs ls hx0 hW hl hf
  unfold fX11_lightFar_17 at hf
  refine lv_iconst C.1 C.2.1 dX11_lightFar_17 ic_m1 ?_
  refine lv_goto (tgt := 26) C.1 C.2.1 dX11_lightFar_18 rfl ?_
  exact kX11_lightFar_26  C x0 x1 (-1 : Int32) _ _ _ _ hx0 hW (lv_sub hl [0, 1] rfl) hf

set_option maxRecDepth 100000 in
theorem cX11_lightFar_ok {l : Launch} {G : Gv} {L : List Nat} {S : MS} {a0 : Nat} {a1 : Int32} {a2 : Int32} {a3 : Int32} {q : (Int32 × MS)} (ha0 : a0 < shM.1 ∧ shM.2.1 a0 = 11) (hf : fX11_lightFar a0 a1 a2 a3 S = some q) : Mt l yX11_lightFar cX11_lightFar 8 (some .int) (2) G shM L S [.ref (ad L a0), .int a1, .int a2, .int a3] (some (.int q.1)) q.2 := by
  refine m_enter (lv := [(0, .ref (ad L a0)), (1, .int a1), (2, .int a2), (3, .int a3)]) (plainFor_of_name (by decide)) (Nat.le_of_ble_eq_true rfl) rfl ?_
  intro p e s m below meth c A ls C hW hl
  unfold fX11_lightFar at hf
  refine lv_aload_n C.1 C.2.1 dX11_lightFar_0 rfl (lv_at hl 0 rfl) ?_
  refine lv_iconst C.1 C.2.1 dX11_lightFar_1 ic_m1 ?_
  refine m_puti C hW ha0 fpX11_406 dX11_lightFar_2 (fun H locs hW => ?_)
  refine lv_iload_n C.1 C.2.1 dX11_lightFar_5 rfl (lv_at hl 3 rfl) ?_
  refine lv_if_ne (tgt := 17) C.1 C.2.1 dX11_lightFar_6 rfl (fun c25 => ?_) (fun c25 => ?_)
  · have hf := (if_neg c25).symm.trans hf
    exact kX11_lightFar_17  C a0 a1 _ _ _ _ ha0 hW (lv_sub hl [0, 1] rfl) hf
  · have hf := (if_pos c25).symm.trans hf
    refine lv_aload_n C.1 C.2.1 dX11_lightFar_9 rfl (lv_at hl 0 rfl) ?_
    refine m_geti C hW ha0 flX11_409 dX11_lightFar_10 ?_
    refine lv_iconst C.1 C.2.1 dX11_lightFar_13 ic_5 ?_
    refine lv_icmp_ne (tgt := 21) C.1 C.2.1 dX11_lightFar_14 rfl (fun c26 => ?_) (fun c26 => ?_)
    · have hf := (if_neg c26).symm.trans hf
      refine lv_aload_n C.1 C.2.1 dX11_lightFar_21 rfl (lv_at hl 0 rfl) ?_
      refine lv_iload_n C.1 C.2.1 dX11_lightFar_22 rfl (lv_at hl 2 rfl) ?_
      obtain ⟨q27, h28, hf⟩ := bd hf
      refine m_callV (As := [.int a2]) (rest := []) C hW ha0 (cX11_sunAt_ok  ha0 h28) mlX11_412 (by decide) rfl hl.1 rfl (Nat.le_of_ble_eq_true rfl) (Nat.le_of_ble_eq_true rfl) (Nat.le_of_ble_eq_true rfl) dX11_lightFar_23 (fun H locs hW => ?_)
      exact kX11_lightFar_26  C a0 a1 q27 _ _ _ _ ha0 hW (lv_sub hl [0, 1] rfl) hf
    · have hf := (if_pos c26).symm.trans hf
      exact kX11_lightFar_17  C a0 a1 _ _ _ _ ha0 hW (lv_sub hl [0, 1] rfl) hf

def fX11_doings_75 (K2 : Nat → Int32 → Int32 → MS → Option MS) (x0 : Nat) (x1 : Int32) (x2 : Int32) (S : MS) : Option MS := K2 x0 x1 (x2 + (1 : Int32)) S
def fX11_doings_58 (K2 : Nat → Int32 → Int32 → MS → Option MS) (x0 : Nat) (x1 : Int32) (x2 : Int32) (y0 : Int32) (S : MS) : Option MS := (if y0 = (0 : Int32) then fX11_doings_75 K2 x0 x1 x2 S else (if bnd x1 (lnM (gR S x0 51)) = true then (if bnd x1 (lnM (gR S x0 51)) = true then fX11_doings_75 K2 x0 x1 x2 (pI S (gR S x0 51) x1.toNatClampNeg ((gI S (gR S x0 51) x1.toNatClampNeg) ||| ((1 : Int32) <<< (x2 &&& 31)))) else none) else none))
def fX11_doings_2  : Nat → Nat → Int32 → Int32 → MS → Option MS
  | 0, _, _, _, _ => none
  | n + 1, x0, x1, x2, S => (if bnd (8 : Int32) (lnM (gR S x0 3)) = true then (if (gI S (gR S x0 3) (8 : Int32).toNatClampNeg) ≤ x2 then some S else (if bnd x2 (lnM (gR S x0 15)) = true then (if gI S (gR S x0 15) x2.toNatClampNeg = (0 : Int32) then (if bnd x2 (lnM (gR S x0 16)) = true then (if bnd x2 (lnM (gR S x0 17)) = true then (fX11_isHerAt  x0 x1 (gI S (gR S x0 16) x2.toNatClampNeg) (gI S (gR S x0 17) x2.toNatClampNeg) S).bind fun q21 => fX11_doings_58 (fX11_doings_2  n) x0 x1 x2 q21 S else none) else none) else (if bnd x2 (lnM (gR S x0 16)) = true then (if bnd x2 (lnM (gR S x0 17)) = true then (fX11_isItAt  x0 (gI S (gR S x0 16) x2.toNatClampNeg) (gI S (gR S x0 17) x2.toNatClampNeg) S).bind fun q15 => fX11_doings_58 (fX11_doings_2  n) x0 x1 x2 q15 S else none) else none)) else none)) else none)
def fX11_doings (a0 : Nat) (a1 : Int32) (S : MS) : Option MS := fX11_doings_2  1000 a0 a1 (0 : Int32) S
set_option maxRecDepth 100000 in
theorem kX11_doings_75 {p : Program} {l : Launch} {e : Env} {s : State} {m : MethodId} {av : Array Value} {below : List Frame} {meth : Method} {c : Code} {A : Nat → Prop} {G : Gv} {L : List Nat} {q : MS} {K2 : Nat → Int32 → Int32 → MS → Option MS} (hK2 : ∀ (x0 : Nat) (x1 : Int32) (x2 : Int32) (S : MS) (H : Heap) (locs : List Loc) (ls : Array Slot), (x0 < shM.1 ∧ shM.2.1 x0 = 11) → mW G shM L S A s H locs → lv_has ls 4 [(0, .ref (ad L x0)), (1, .int x1), (2, .int x2)] → K2 x0 x1 x2 S = some q → W p l e (rmd (2)) s m av below meth c H locs 0 0 (MQ below (mQ G shM L q none A) av s 0 0 A) (F0 m 2 ls [])) (C : mC p s m av meth c cX11_doings RX11 4 none) : ∀ (x0 : Nat) (x1 : Int32) (x2 : Int32) (S : MS) (H : Heap) (locs : List Loc) (ls : Array Slot), (x0 < shM.1 ∧ shM.2.1 x0 = 11) → mW G shM L S A s H locs → lv_has ls 4 [(0, .ref (ad L x0)), (1, .int x1), (2, .int x2)] → fX11_doings_75 K2 x0 x1 x2 S = some q → W p l e (rmd (2)) s m av below meth c H locs 0 0 (MQ below (mQ G shM L q none A) av s 0 0 A) (F0 m 75 ls []) := by
  intro x0 x1 x2 S H locs ls hx0 hW hl hf
  unfold fX11_doings_75 at hf
  refine lv_iinc (v := x2 + (1 : Int32)) (lv' := [(2, .int (x2 + (1 : Int32))), (0, .ref (ad L x0)), (1, .int x1)]) C.1 C.2.1 dX11_doings_75 hl (k := 2) rfl (congrArg (fun z => x2 + z) ic_1) (by decide) rfl (fun ls hl => ?_)
  refine lv_goto (tgt := 2) C.1 C.2.1 dX11_doings_78 rfl ?_
  exact hK2 x0 x1 (x2 + (1 : Int32)) _ _ _ _ hx0 hW (lv_sub hl [1, 2, 0] rfl) hf

set_option maxRecDepth 100000 in
theorem kX11_doings_58 {p : Program} {l : Launch} {e : Env} {s : State} {m : MethodId} {av : Array Value} {below : List Frame} {meth : Method} {c : Code} {A : Nat → Prop} {G : Gv} {L : List Nat} {q : MS} {K2 : Nat → Int32 → Int32 → MS → Option MS} (hK2 : ∀ (x0 : Nat) (x1 : Int32) (x2 : Int32) (S : MS) (H : Heap) (locs : List Loc) (ls : Array Slot), (x0 < shM.1 ∧ shM.2.1 x0 = 11) → mW G shM L S A s H locs → lv_has ls 4 [(0, .ref (ad L x0)), (1, .int x1), (2, .int x2)] → K2 x0 x1 x2 S = some q → W p l e (rmd (2)) s m av below meth c H locs 0 0 (MQ below (mQ G shM L q none A) av s 0 0 A) (F0 m 2 ls [])) (C : mC p s m av meth c cX11_doings RX11 4 none) : ∀ (x0 : Nat) (x1 : Int32) (x2 : Int32) (y0 : Int32) (S : MS) (H : Heap) (locs : List Loc) (ls : Array Slot), (x0 < shM.1 ∧ shM.2.1 x0 = 11) → mW G shM L S A s H locs → lv_has ls 4 [(0, .ref (ad L x0)), (1, .int x1), (2, .int x2)] → fX11_doings_58 K2 x0 x1 x2 y0 S = some q → W p l e (rmd (2)) s m av below meth c H locs 0 0 (MQ below (mQ G shM L q none A) av s 0 0 A) (F0 m 58 ls [.int y0]) := by
  intro x0 x1 x2 y0 S H locs ls hx0 hW hl hf
  unfold fX11_doings_58 at hf
  refine lv_istore_n (lv' := [(3, .int y0), (0, .ref (ad L x0)), (1, .int x1), (2, .int x2)]) C.1 C.2.1 dX11_doings_58 rfl hl (by decide) rfl (fun ls hl => ?_)
  refine lv_iload_n C.1 C.2.1 dX11_doings_59 rfl (lv_at hl 0 rfl) ?_
  refine lv_if_eq (tgt := 75) C.1 C.2.1 dX11_doings_60 rfl (fun c1 => ?_) (fun c1 => ?_)
  · have hf := (if_pos c1).symm.trans hf
    exact kX11_doings_75 hK2 C x0 x1 x2 _ _ _ _ hx0 hW (lv_sub hl [1, 2, 3] rfl) hf
  · have hf := (if_neg c1).symm.trans hf
    refine lv_aload_n C.1 C.2.1 dX11_doings_63 rfl (lv_at hl 1 rfl) ?_
    refine m_getr C hW hx0 flX11_117 (by decide) dX11_doings_64 (fun hk2 => ?_)
    refine lv_iload_n C.1 C.2.1 dX11_doings_67 rfl (lv_at hl 2 rfl) ?_
    refine lv_dup2_11 C.1 C.2.1 dX11_doings_68 rfl rfl ?_
    obtain ⟨hb3, hf⟩ := gd hf
    refine m_iald C hW hk2 hb3 dX11_doings_69 ?_
    refine lv_iconst C.1 C.2.1 dX11_doings_70 ic_1 ?_
    refine lv_iload_n C.1 C.2.1 dX11_doings_71 rfl (lv_at hl 3 rfl) ?_
    refine lv_ishl C.1 C.2.1 dX11_doings_72 ?_
    refine lv_ior C.1 C.2.1 dX11_doings_73 ?_
    obtain ⟨hb4, hf⟩ := gd hf
    refine m_iast C hW hk2 hb4 dX11_doings_74 (fun H locs hW => ?_)
    exact kX11_doings_75 hK2 C x0 x1 x2 _ _ _ _ hx0 hW (lv_sub hl [1, 2, 3] rfl) hf

set_option maxRecDepth 100000 in
theorem kX11_doings_2 {p : Program} {l : Launch} {e : Env} {s : State} {m : MethodId} {av : Array Value} {below : List Frame} {meth : Method} {c : Code} {A : Nat → Prop} {G : Gv} {L : List Nat} {q : MS}  (C : mC p s m av meth c cX11_doings RX11 4 none) : ∀ (n : Nat) (x0 : Nat) (x1 : Int32) (x2 : Int32) (S : MS) (H : Heap) (locs : List Loc) (ls : Array Slot), (x0 < shM.1 ∧ shM.2.1 x0 = 11) → mW G shM L S A s H locs → lv_has ls 4 [(0, .ref (ad L x0)), (1, .int x1), (2, .int x2)] → fX11_doings_2  n x0 x1 x2 S = some q → W p l e (rmd (2)) s m av below meth c H locs 0 0 (MQ below (mQ G shM L q none A) av s 0 0 A) (F0 m 2 ls []) := by
  intro n
  induction n with
  | zero =>
    intro x0 x1 x2 S H locs ls hx0 hW hl hf
    rw [fX11_doings_2] at hf
    cases hf
  | succ n ih =>
    intro x0 x1 x2 S H locs ls hx0 hW hl hf
    rw [fX11_doings_2] at hf
    refine lv_iload_n C.1 C.2.1 dX11_doings_2 rfl (lv_at hl 2 rfl) ?_
    refine lv_aload_n C.1 C.2.1 dX11_doings_3 rfl (lv_at hl 0 rfl) ?_
    refine m_getr C hW hx0 flX11_13 (by decide) dX11_doings_4 (fun hk5 => ?_)
    refine lv_bipush C.1 C.2.1 dX11_doings_7 bp_8 ?_
    obtain ⟨hb6, hf⟩ := gd hf
    refine m_iald C hW hk5 hb6 dX11_doings_9 ?_
    refine lv_icmp_ge (tgt := 81) C.1 C.2.1 dX11_doings_10 rfl (fun c7 => ?_) (fun c7 => ?_)
    · have hf := (if_pos c7).symm.trans hf
      cases hf
      exact m_vret C hW dX11_doings_81
    · have hf := (if_neg c7).symm.trans hf
      refine lv_aload_n C.1 C.2.1 dX11_doings_13 rfl (lv_at hl 0 rfl) ?_
      refine m_getr C hW hx0 flX11_49 (by decide) dX11_doings_14 (fun hk8 => ?_)
      refine lv_iload_n C.1 C.2.1 dX11_doings_17 rfl (lv_at hl 2 rfl) ?_
      obtain ⟨hb9, hf⟩ := gd hf
      refine m_iald C hW hk8 hb9 dX11_doings_18 ?_
      refine lv_if_ne (tgt := 42) C.1 C.2.1 dX11_doings_19 rfl (fun c10 => ?_) (fun c10 => ?_)
      · have hf := (if_neg c10).symm.trans hf
        refine lv_aload_n C.1 C.2.1 dX11_doings_42 rfl (lv_at hl 0 rfl) ?_
        refine lv_aload_n C.1 C.2.1 dX11_doings_43 rfl (lv_at hl 0 rfl) ?_
        refine m_getr C hW hx0 flX11_52 (by decide) dX11_doings_44 (fun hk11 => ?_)
        refine lv_iload_n C.1 C.2.1 dX11_doings_47 rfl (lv_at hl 2 rfl) ?_
        obtain ⟨hb12, hf⟩ := gd hf
        refine m_iald C hW hk11 hb12 dX11_doings_48 ?_
        refine lv_aload_n C.1 C.2.1 dX11_doings_49 rfl (lv_at hl 0 rfl) ?_
        refine m_getr C hW hx0 flX11_55 (by decide) dX11_doings_50 (fun hk13 => ?_)
        refine lv_iload_n C.1 C.2.1 dX11_doings_53 rfl (lv_at hl 2 rfl) ?_
        obtain ⟨hb14, hf⟩ := gd hf
        refine m_iald C hW hk13 hb14 dX11_doings_54 ?_
        obtain ⟨q15, h16, hf⟩ := bd hf
        refine m_callV (As := [.int (gI S (gR S x0 16) x2.toNatClampNeg), .int (gI S (gR S x0 17) x2.toNatClampNeg)]) (rest := []) C hW hx0 (cX11_isItAt_ok  hx0 h16) mlX11_445 (by decide) rfl hl.1 rfl (Nat.le_of_ble_eq_true rfl) (Nat.le_of_ble_eq_true rfl) (Nat.le_of_ble_eq_true rfl) dX11_doings_55 (fun H locs hW => ?_)
        exact kX11_doings_58 ih C x0 x1 x2 q15 _ _ _ _ hx0 hW (lv_sub hl [0, 1, 2] rfl) hf
      · have hf := (if_pos c10).symm.trans hf
        refine lv_aload_n C.1 C.2.1 dX11_doings_22 rfl (lv_at hl 0 rfl) ?_
        refine lv_iload_n C.1 C.2.1 dX11_doings_23 rfl (lv_at hl 1 rfl) ?_
        refine lv_aload_n C.1 C.2.1 dX11_doings_24 rfl (lv_at hl 0 rfl) ?_
        refine m_getr C hW hx0 flX11_52 (by decide) dX11_doings_25 (fun hk17 => ?_)
        refine lv_iload_n C.1 C.2.1 dX11_doings_28 rfl (lv_at hl 2 rfl) ?_
        obtain ⟨hb18, hf⟩ := gd hf
        refine m_iald C hW hk17 hb18 dX11_doings_29 ?_
        refine lv_aload_n C.1 C.2.1 dX11_doings_30 rfl (lv_at hl 0 rfl) ?_
        refine m_getr C hW hx0 flX11_55 (by decide) dX11_doings_31 (fun hk19 => ?_)
        refine lv_iload_n C.1 C.2.1 dX11_doings_34 rfl (lv_at hl 2 rfl) ?_
        obtain ⟨hb20, hf⟩ := gd hf
        refine m_iald C hW hk19 hb20 dX11_doings_35 ?_
        obtain ⟨q21, h22, hf⟩ := bd hf
        refine m_callV (As := [.int x1, .int (gI S (gR S x0 16) x2.toNatClampNeg), .int (gI S (gR S x0 17) x2.toNatClampNeg)]) (rest := []) C hW hx0 (cX11_isHerAt_ok  hx0 h22) mlX11_441 (by decide) rfl hl.1 rfl (Nat.le_of_ble_eq_true rfl) (Nat.le_of_ble_eq_true rfl) (Nat.le_of_ble_eq_true rfl) dX11_doings_36 (fun H locs hW => ?_)
        refine lv_goto (tgt := 58) C.1 C.2.1 dX11_doings_39 rfl ?_
        exact kX11_doings_58 ih C x0 x1 x2 q21 _ _ _ _ hx0 hW (lv_sub hl [0, 1, 2] rfl) hf

set_option maxRecDepth 100000 in
theorem cX11_doings_ok {l : Launch} {G : Gv} {L : List Nat} {S : MS} {a0 : Nat} {a1 : Int32} {q : MS} (ha0 : a0 < shM.1 ∧ shM.2.1 a0 = 11) (hf : fX11_doings a0 a1 S = some q) : Mt l yX11_doings cX11_doings 4 none (2) G shM L S [.ref (ad L a0), .int a1] none q := by
  refine m_enter (lv := [(0, .ref (ad L a0)), (1, .int a1)]) (plainFor_of_name (by decide)) (Nat.le_of_ble_eq_true rfl) rfl ?_
  intro p e s m below meth c A ls C hW hl
  unfold fX11_doings at hf
  refine lv_iconst C.1 C.2.1 dX11_doings_0 ic_0 ?_
  refine lv_istore_n (lv' := [(2, .int (0 : Int32)), (0, .ref (ad L a0)), (1, .int a1)]) C.1 C.2.1 dX11_doings_1 rfl hl (by decide) rfl (fun ls hl => ?_)
  exact kX11_doings_2  C 1000 a0 a1 (0 : Int32) _ _ _ _ ha0 hW (lv_sub hl [1, 2, 0] rfl) hf

def fX11_doing_27  (x0 : Nat) (x1 : Int32) (x2 : Int32) (y0 : Nat) (y1 : Int32) (S : MS) : Option (Int32 × MS) := (if gI (pI S y0 0 y1) x0 0 = (0 : Int32) then (if x2 = (0 : Int32) then (if bnd x1 (lnM (gR (pI S y0 0 y1) x0 15)) = true then some (gI (pI S y0 0 y1) (gR (pI S y0 0 y1) x0 15) x1.toNatClampNeg, pI S y0 0 y1) else none) else if x2 = (1 : Int32) then (if bnd x1 (lnM (gR (pI S y0 0 y1) x0 16)) = true then some (gI (pI S y0 0 y1) (gR (pI S y0 0 y1) x0 16) x1.toNatClampNeg, pI S y0 0 y1) else none) else if x2 = (2 : Int32) then (if bnd x1 (lnM (gR (pI S y0 0 y1) x0 17)) = true then some (gI (pI S y0 0 y1) (gR (pI S y0 0 y1) x0 17) x1.toNatClampNeg, pI S y0 0 y1) else none) else if x2 = (3 : Int32) then (if bnd x1 (lnM (gR (pI S y0 0 y1) x0 18)) = true then some (gI (pI S y0 0 y1) (gR (pI S y0 0 y1) x0 18) x1.toNatClampNeg, pI S y0 0 y1) else none) else (if bnd (0 : Int32) (lnM (gR (pI S y0 0 y1) x0 51)) = true then some (((gI (pI S y0 0 y1) (gR (pI S y0 0 y1) x0 51) (0 : Int32).toNatClampNeg) >>> (x1 &&& 31)) &&& (1 : Int32), pI S y0 0 y1) else none)) else some ((0 : Int32), pI S y0 0 y1))
def fX11_doing_22  (x0 : Nat) (x1 : Int32) (x2 : Int32) (y0 : Nat) (S : MS) : Option (Int32 × MS) := fX11_doing_27  x0 x1 x2 y0 (2 : Int32) S
def fX11_doing (a0 : Nat) (a1 : Int32) (a2 : Int32) (S : MS) : Option (Int32 × MS) := (fX11_isDoing  a0 a1 S).bind fun q17 => (if q17 = (0 : Int32) then fX11_doing_27  a0 a1 a2 a0 (1 : Int32) S else (if a2 < (0 : Int32) then fX11_doing_22  a0 a1 a2 a0 S else (if a2 ≤ (4 : Int32) then fX11_doing_27  a0 a1 a2 a0 (0 : Int32) S else fX11_doing_22  a0 a1 a2 a0 S)))
set_option maxRecDepth 100000 in
theorem kX11_doing_27 {p : Program} {l : Launch} {e : Env} {s : State} {m : MethodId} {av : Array Value} {below : List Frame} {meth : Method} {c : Code} {A : Nat → Prop} {G : Gv} {L : List Nat} {q : (Int32 × MS)}  (C : mC p s m av meth c cX11_doing RX11 3 (some .int)) : ∀ (x0 : Nat) (x1 : Int32) (x2 : Int32) (y0 : Nat) (y1 : Int32) (S : MS) (H : Heap) (locs : List Loc) (ls : Array Slot), (x0 < shM.1 ∧ shM.2.1 x0 = 11) → (y0 < shM.1 ∧ shM.2.1 y0 = 11) → mW G shM L S A s H locs → lv_has ls 3 [(0, .ref (ad L x0)), (1, .int x1), (2, .int x2)] → fX11_doing_27  x0 x1 x2 y0 y1 S = some q → W p l e (rmd (2)) s m av below meth c H locs 0 0 (MQ below (mQ G shM L q.2 (some (.int q.1)) A) av s 0 0 A) (F0 m 27 ls [.int y1, .ref (ad L y0)]) := by
  intro x0 x1 x2 y0 y1 S H locs ls hx0 hy0 hW hl hf
  unfold fX11_doing_27 at hf
  refine m_puti C hW hy0 fpX11_163 dX11_doing_27 (fun H locs hW => ?_)
  refine lv_aload_n C.1 C.2.1 dX11_doing_30 rfl (lv_at hl 0 rfl) ?_
  refine m_geti C hW hx0 flX11_163 dX11_doing_31 ?_
  refine lv_if_eq (tgt := 39) C.1 C.2.1 dX11_doing_34 rfl (fun c1 => ?_) (fun c1 => ?_)
  · have hf := (if_pos c1).symm.trans hf
    refine lv_iload_n C.1 C.2.1 dX11_doing_39 rfl (lv_at hl 2 rfl) ?_
    by_cases c2 : x2 = (0 : Int32)
    · have hf := (if_pos c2).symm.trans hf
      refine lv_tableIn (tgt := 72) C.1 C.2.1 dX11_doing_40 (by rw [c2]; decide) (by rw [c2]; decide) (by rw [c2]; rfl) rfl ?_
      refine lv_aload_n C.1 C.2.1 dX11_doing_72 rfl (lv_at hl 0 rfl) ?_
      refine m_getr C hW hx0 flX11_49 (by decide) dX11_doing_73 (fun hk3 => ?_)
      refine lv_iload_n C.1 C.2.1 dX11_doing_76 rfl (lv_at hl 1 rfl) ?_
      obtain ⟨hb4, hf⟩ := gd hf
      refine m_iald C hW hk3 hb4 dX11_doing_77 ?_
      cases hf
      exact m_iret C hW dX11_doing_78
    have hf := (if_neg c2).symm.trans hf
    by_cases c5 : x2 = (1 : Int32)
    · have hf := (if_pos c5).symm.trans hf
      refine lv_tableIn (tgt := 79) C.1 C.2.1 dX11_doing_40 (by rw [c5]; decide) (by rw [c5]; decide) (by rw [c5]; rfl) rfl ?_
      refine lv_aload_n C.1 C.2.1 dX11_doing_79 rfl (lv_at hl 0 rfl) ?_
      refine m_getr C hW hx0 flX11_52 (by decide) dX11_doing_80 (fun hk6 => ?_)
      refine lv_iload_n C.1 C.2.1 dX11_doing_83 rfl (lv_at hl 1 rfl) ?_
      obtain ⟨hb7, hf⟩ := gd hf
      refine m_iald C hW hk6 hb7 dX11_doing_84 ?_
      cases hf
      exact m_iret C hW dX11_doing_85
    have hf := (if_neg c5).symm.trans hf
    by_cases c8 : x2 = (2 : Int32)
    · have hf := (if_pos c8).symm.trans hf
      refine lv_tableIn (tgt := 86) C.1 C.2.1 dX11_doing_40 (by rw [c8]; decide) (by rw [c8]; decide) (by rw [c8]; rfl) rfl ?_
      refine lv_aload_n C.1 C.2.1 dX11_doing_86 rfl (lv_at hl 0 rfl) ?_
      refine m_getr C hW hx0 flX11_55 (by decide) dX11_doing_87 (fun hk9 => ?_)
      refine lv_iload_n C.1 C.2.1 dX11_doing_90 rfl (lv_at hl 1 rfl) ?_
      obtain ⟨hb10, hf⟩ := gd hf
      refine m_iald C hW hk9 hb10 dX11_doing_91 ?_
      cases hf
      exact m_iret C hW dX11_doing_92
    have hf := (if_neg c8).symm.trans hf
    by_cases c11 : x2 = (3 : Int32)
    · have hf := (if_pos c11).symm.trans hf
      refine lv_tableIn (tgt := 93) C.1 C.2.1 dX11_doing_40 (by rw [c11]; decide) (by rw [c11]; decide) (by rw [c11]; rfl) rfl ?_
      refine lv_aload_n C.1 C.2.1 dX11_doing_93 rfl (lv_at hl 0 rfl) ?_
      refine m_getr C hW hx0 flX11_58 (by decide) dX11_doing_94 (fun hk12 => ?_)
      refine lv_iload_n C.1 C.2.1 dX11_doing_97 rfl (lv_at hl 1 rfl) ?_
      obtain ⟨hb13, hf⟩ := gd hf
      refine m_iald C hW hk12 hb13 dX11_doing_98 ?_
      cases hf
      exact m_iret C hW dX11_doing_99
    have hf := (if_neg c11).symm.trans hf
    by_cases ho16 : x2.toInt < 0 ∨ 3 < x2.toInt
    · refine lv_tableOut (tgt := 100) C.1 C.2.1 dX11_doing_40 ho16 rfl ?_
      refine lv_aload_n C.1 C.2.1 dX11_doing_100 rfl (lv_at hl 0 rfl) ?_
      refine m_getr C hW hx0 flX11_117 (by decide) dX11_doing_101 (fun hk14 => ?_)
      refine lv_iconst C.1 C.2.1 dX11_doing_104 ic_0 ?_
      obtain ⟨hb15, hf⟩ := gd hf
      refine m_iald C hW hk14 hb15 dX11_doing_105 ?_
      refine lv_iload_n C.1 C.2.1 dX11_doing_106 rfl (lv_at hl 1 rfl) ?_
      refine lv_ishr C.1 C.2.1 dX11_doing_107 ?_
      refine lv_iconst C.1 C.2.1 dX11_doing_108 ic_1 ?_
      refine lv_iand C.1 C.2.1 dX11_doing_109 ?_
      cases hf
      exact m_iret C hW dX11_doing_110
    · exfalso
      have := tn_e c2 (0) (by decide)
      have := tn_e c5 (1) (by decide)
      have := tn_e c8 (2) (by decide)
      have := tn_e c11 (3) (by decide)
      omega
  · have hf := (if_neg c1).symm.trans hf
    refine lv_iconst C.1 C.2.1 dX11_doing_37 ic_0 ?_
    cases hf
    exact m_iret C hW dX11_doing_38

set_option maxRecDepth 100000 in
theorem kX11_doing_22 {p : Program} {l : Launch} {e : Env} {s : State} {m : MethodId} {av : Array Value} {below : List Frame} {meth : Method} {c : Code} {A : Nat → Prop} {G : Gv} {L : List Nat} {q : (Int32 × MS)}  (C : mC p s m av meth c cX11_doing RX11 3 (some .int)) : ∀ (x0 : Nat) (x1 : Int32) (x2 : Int32) (y0 : Nat) (S : MS) (H : Heap) (locs : List Loc) (ls : Array Slot), (x0 < shM.1 ∧ shM.2.1 x0 = 11) → (y0 < shM.1 ∧ shM.2.1 y0 = 11) → mW G shM L S A s H locs → lv_has ls 3 [(0, .ref (ad L x0)), (1, .int x1), (2, .int x2)] → fX11_doing_22  x0 x1 x2 y0 S = some q → W p l e (rmd (2)) s m av below meth c H locs 0 0 (MQ below (mQ G shM L q.2 (some (.int q.1)) A) av s 0 0 A) (F0 m 22 ls [.ref (ad L y0)]) := by
  intro x0 x1 x2 y0 S H locs ls hx0 hy0 hW hl hf
  unfold fX11_doing_22 at hf
  refine lv_iconst C.1 C.2.1 dX11_doing_22 ic_2 ?_
  refine lv_goto (tgt := 27) C.1 C.2.1 dX11_doing_23 rfl ?_
  exact kX11_doing_27  C x0 x1 x2 y0 (2 : Int32) _ _ _ _ hx0 hy0 hW (lv_sub hl [0, 1, 2] rfl) hf

set_option maxRecDepth 100000 in
theorem cX11_doing_ok {l : Launch} {G : Gv} {L : List Nat} {S : MS} {a0 : Nat} {a1 : Int32} {a2 : Int32} {q : (Int32 × MS)} (ha0 : a0 < shM.1 ∧ shM.2.1 a0 = 11) (hf : fX11_doing a0 a1 a2 S = some q) : Mt l yX11_doing cX11_doing 3 (some .int) (2) G shM L S [.ref (ad L a0), .int a1, .int a2] (some (.int q.1)) q.2 := by
  refine m_enter (lv := [(0, .ref (ad L a0)), (1, .int a1), (2, .int a2)]) (plainFor_of_name (by decide)) (Nat.le_of_ble_eq_true rfl) rfl ?_
  intro p e s m below meth c A ls C hW hl
  unfold fX11_doing at hf
  refine lv_aload_n C.1 C.2.1 dX11_doing_0 rfl (lv_at hl 0 rfl) ?_
  refine lv_aload_n C.1 C.2.1 dX11_doing_1 rfl (lv_at hl 0 rfl) ?_
  refine lv_iload_n C.1 C.2.1 dX11_doing_2 rfl (lv_at hl 1 rfl) ?_
  obtain ⟨q17, h18, hf⟩ := bd hf
  refine m_callV (As := [.int a1]) (rest := [.ref (ad L a0)]) C hW ha0 (cX11_isDoing_ok  ha0 h18) mlX11_472 (by decide) rfl hl.1 rfl (Nat.le_of_ble_eq_true rfl) (Nat.le_of_ble_eq_true rfl) (Nat.le_of_ble_eq_true rfl) dX11_doing_3 (fun H locs hW => ?_)
  refine lv_if_ne (tgt := 13) C.1 C.2.1 dX11_doing_6 rfl (fun c19 => ?_) (fun c19 => ?_)
  · have hf := (if_neg c19).symm.trans hf
    refine lv_iload_n C.1 C.2.1 dX11_doing_13 rfl (lv_at hl 2 rfl) ?_
    refine lv_if_lt (tgt := 22) C.1 C.2.1 dX11_doing_14 rfl (fun c20 => ?_) (fun c20 => ?_)
    · have hf := (if_pos c20).symm.trans hf
      exact kX11_doing_22  C a0 a1 a2 a0 _ _ _ _ ha0 ha0 hW (lv_sub hl [0, 1, 2] rfl) hf
    · have hf := (if_neg c20).symm.trans hf
      refine lv_iload_n C.1 C.2.1 dX11_doing_17 rfl (lv_at hl 2 rfl) ?_
      refine lv_iconst C.1 C.2.1 dX11_doing_18 ic_4 ?_
      refine lv_icmp_le (tgt := 26) C.1 C.2.1 dX11_doing_19 rfl (fun c21 => ?_) (fun c21 => ?_)
      · have hf := (if_pos c21).symm.trans hf
        refine lv_iconst C.1 C.2.1 dX11_doing_26 ic_0 ?_
        exact kX11_doing_27  C a0 a1 a2 a0 (0 : Int32) _ _ _ _ ha0 ha0 hW (lv_sub hl [0, 1, 2] rfl) hf
      · have hf := (if_neg c21).symm.trans hf
        exact kX11_doing_22  C a0 a1 a2 a0 _ _ _ _ ha0 ha0 hW (lv_sub hl [0, 1, 2] rfl) hf
  · have hf := (if_pos c19).symm.trans hf
    refine lv_iconst C.1 C.2.1 dX11_doing_9 ic_1 ?_
    refine lv_goto (tgt := 27) C.1 C.2.1 dX11_doing_10 rfl ?_
    exact kX11_doing_27  C a0 a1 a2 a0 (1 : Int32) _ _ _ _ ha0 ha0 hW (lv_sub hl [0, 1, 2] rfl) hf

def fX11_man (a0 : Nat) (a1 : Int32) (a2 : Int32) (S : MS) : Option (Int32 × MS) := (fX11_isMan  a0 a1 (pI S a0 0 (0 : Int32))).bind fun q1 => (if q1 = (0 : Int32) then some ((-1 : Int32), pI S a0 0 (0 : Int32)) else (if a2 = (0 : Int32) then (if bnd a1 (lnM (gR (pI S a0 0 (0 : Int32)) a0 20)) = true then some (gI (pI S a0 0 (0 : Int32)) (gR (pI S a0 0 (0 : Int32)) a0 20) a1.toNatClampNeg, pI S a0 0 (0 : Int32)) else none) else if a2 = (1 : Int32) then (if bnd a1 (lnM (gR (pI S a0 0 (0 : Int32)) a0 21)) = true then some (gI (pI S a0 0 (0 : Int32)) (gR (pI S a0 0 (0 : Int32)) a0 21) a1.toNatClampNeg, pI S a0 0 (0 : Int32)) else none) else if a2 = (2 : Int32) then (if bnd a1 (lnM (gR (pI S a0 0 (0 : Int32)) a0 52)) = true then some (gI (pI S a0 0 (0 : Int32)) (gR (pI S a0 0 (0 : Int32)) a0 52) a1.toNatClampNeg, pI S a0 0 (0 : Int32)) else none) else if a2 = (3 : Int32) then (if bnd a1 (lnM (gR (pI S a0 0 (0 : Int32)) a0 53)) = true then some (gI (pI S a0 0 (0 : Int32)) (gR (pI S a0 0 (0 : Int32)) a0 53) a1.toNatClampNeg, pI S a0 0 (0 : Int32)) else none) else if a2 = (4 : Int32) then (if bnd a1 (lnM (gR (pI S a0 0 (0 : Int32)) a0 54)) = true then some (gI (pI S a0 0 (0 : Int32)) (gR (pI S a0 0 (0 : Int32)) a0 54) a1.toNatClampNeg, pI S a0 0 (0 : Int32)) else none) else if a2 = (5 : Int32) then (fX11_engagedTo  a0 a1 (pI S a0 0 (0 : Int32))).bind fun q20 => some (q20, pI S a0 0 (0 : Int32)) else some ((-1 : Int32), pI S a0 0 (0 : Int32))))
set_option maxRecDepth 100000 in
theorem cX11_man_ok {l : Launch} {G : Gv} {L : List Nat} {S : MS} {a0 : Nat} {a1 : Int32} {a2 : Int32} {q : (Int32 × MS)} (ha0 : a0 < shM.1 ∧ shM.2.1 a0 = 11) (hf : fX11_man a0 a1 a2 S = some q) : Mt l yX11_man cX11_man 3 (some .int) (2) G shM L S [.ref (ad L a0), .int a1, .int a2] (some (.int q.1)) q.2 := by
  refine m_enter (lv := [(0, .ref (ad L a0)), (1, .int a1), (2, .int a2)]) (plainFor_of_name (by decide)) (Nat.le_of_ble_eq_true rfl) rfl ?_
  intro p e s m below meth c A ls C hW hl
  unfold fX11_man at hf
  refine lv_aload_n C.1 C.2.1 dX11_man_0 rfl (lv_at hl 0 rfl) ?_
  refine lv_iconst C.1 C.2.1 dX11_man_1 ic_0 ?_
  refine m_puti C hW ha0 fpX11_163 dX11_man_2 (fun H locs hW => ?_)
  refine lv_aload_n C.1 C.2.1 dX11_man_5 rfl (lv_at hl 0 rfl) ?_
  refine lv_iload_n C.1 C.2.1 dX11_man_6 rfl (lv_at hl 1 rfl) ?_
  obtain ⟨q1, h2, hf⟩ := bd hf
  refine m_callV (As := [.int a1]) (rest := []) C hW ha0 (cX11_isMan_ok  ha0 h2) mlX11_475 (by decide) rfl hl.1 rfl (Nat.le_of_ble_eq_true rfl) (Nat.le_of_ble_eq_true rfl) (Nat.le_of_ble_eq_true rfl) dX11_man_7 (fun H locs hW => ?_)
  refine lv_if_ne (tgt := 15) C.1 C.2.1 dX11_man_10 rfl (fun c3 => ?_) (fun c3 => ?_)
  · have hf := (if_neg c3).symm.trans hf
    refine lv_iload_n C.1 C.2.1 dX11_man_15 rfl (lv_at hl 2 rfl) ?_
    by_cases c4 : a2 = (0 : Int32)
    · have hf := (if_pos c4).symm.trans hf
      refine lv_tableIn (tgt := 56) C.1 C.2.1 dX11_man_16 (by rw [c4]; decide) (by rw [c4]; decide) (by rw [c4]; rfl) rfl ?_
      refine lv_aload_n C.1 C.2.1 dX11_man_56 rfl (lv_at hl 0 rfl) ?_
      refine m_getr C hW ha0 flX11_64 (by decide) dX11_man_57 (fun hk5 => ?_)
      refine lv_iload_n C.1 C.2.1 dX11_man_60 rfl (lv_at hl 1 rfl) ?_
      obtain ⟨hb6, hf⟩ := gd hf
      refine m_iald C hW hk5 hb6 dX11_man_61 ?_
      cases hf
      exact m_iret C hW dX11_man_62
    have hf := (if_neg c4).symm.trans hf
    by_cases c7 : a2 = (1 : Int32)
    · have hf := (if_pos c7).symm.trans hf
      refine lv_tableIn (tgt := 63) C.1 C.2.1 dX11_man_16 (by rw [c7]; decide) (by rw [c7]; decide) (by rw [c7]; rfl) rfl ?_
      refine lv_aload_n C.1 C.2.1 dX11_man_63 rfl (lv_at hl 0 rfl) ?_
      refine m_getr C hW ha0 flX11_67 (by decide) dX11_man_64 (fun hk8 => ?_)
      refine lv_iload_n C.1 C.2.1 dX11_man_67 rfl (lv_at hl 1 rfl) ?_
      obtain ⟨hb9, hf⟩ := gd hf
      refine m_iald C hW hk8 hb9 dX11_man_68 ?_
      cases hf
      exact m_iret C hW dX11_man_69
    have hf := (if_neg c7).symm.trans hf
    by_cases c10 : a2 = (2 : Int32)
    · have hf := (if_pos c10).symm.trans hf
      refine lv_tableIn (tgt := 70) C.1 C.2.1 dX11_man_16 (by rw [c10]; decide) (by rw [c10]; decide) (by rw [c10]; rfl) rfl ?_
      refine lv_aload_n C.1 C.2.1 dX11_man_70 rfl (lv_at hl 0 rfl) ?_
      refine m_getr C hW ha0 flX11_120 (by decide) dX11_man_71 (fun hk11 => ?_)
      refine lv_iload_n C.1 C.2.1 dX11_man_74 rfl (lv_at hl 1 rfl) ?_
      obtain ⟨hb12, hf⟩ := gd hf
      refine m_iald C hW hk11 hb12 dX11_man_75 ?_
      cases hf
      exact m_iret C hW dX11_man_76
    have hf := (if_neg c10).symm.trans hf
    by_cases c13 : a2 = (3 : Int32)
    · have hf := (if_pos c13).symm.trans hf
      refine lv_tableIn (tgt := 77) C.1 C.2.1 dX11_man_16 (by rw [c13]; decide) (by rw [c13]; decide) (by rw [c13]; rfl) rfl ?_
      refine lv_aload_n C.1 C.2.1 dX11_man_77 rfl (lv_at hl 0 rfl) ?_
      refine m_getr C hW ha0 flX11_123 (by decide) dX11_man_78 (fun hk14 => ?_)
      refine lv_iload_n C.1 C.2.1 dX11_man_81 rfl (lv_at hl 1 rfl) ?_
      obtain ⟨hb15, hf⟩ := gd hf
      refine m_iald C hW hk14 hb15 dX11_man_82 ?_
      cases hf
      exact m_iret C hW dX11_man_83
    have hf := (if_neg c13).symm.trans hf
    by_cases c16 : a2 = (4 : Int32)
    · have hf := (if_pos c16).symm.trans hf
      refine lv_tableIn (tgt := 84) C.1 C.2.1 dX11_man_16 (by rw [c16]; decide) (by rw [c16]; decide) (by rw [c16]; rfl) rfl ?_
      refine lv_aload_n C.1 C.2.1 dX11_man_84 rfl (lv_at hl 0 rfl) ?_
      refine m_getr C hW ha0 flX11_126 (by decide) dX11_man_85 (fun hk17 => ?_)
      refine lv_iload_n C.1 C.2.1 dX11_man_88 rfl (lv_at hl 1 rfl) ?_
      obtain ⟨hb18, hf⟩ := gd hf
      refine m_iald C hW hk17 hb18 dX11_man_89 ?_
      cases hf
      exact m_iret C hW dX11_man_90
    have hf := (if_neg c16).symm.trans hf
    by_cases c19 : a2 = (5 : Int32)
    · have hf := (if_pos c19).symm.trans hf
      refine lv_tableIn (tgt := 91) C.1 C.2.1 dX11_man_16 (by rw [c19]; decide) (by rw [c19]; decide) (by rw [c19]; rfl) rfl ?_
      refine lv_aload_n C.1 C.2.1 dX11_man_91 rfl (lv_at hl 0 rfl) ?_
      refine lv_iload_n C.1 C.2.1 dX11_man_92 rfl (lv_at hl 1 rfl) ?_
      obtain ⟨q20, h21, hf⟩ := bd hf
      refine m_callV (As := [.int a1]) (rest := []) C hW ha0 (cX11_engagedTo_ok  ha0 h21) mlX11_478 (by decide) rfl hl.1 rfl (Nat.le_of_ble_eq_true rfl) (Nat.le_of_ble_eq_true rfl) (Nat.le_of_ble_eq_true rfl) dX11_man_93 (fun H locs hW => ?_)
      cases hf
      exact m_iret C hW dX11_man_96
    have hf := (if_neg c19).symm.trans hf
    by_cases ho22 : a2.toInt < 0 ∨ 5 < a2.toInt
    · refine lv_tableOut (tgt := 97) C.1 C.2.1 dX11_man_16 ho22 rfl ?_
      refine lv_iconst C.1 C.2.1 dX11_man_97 ic_m1 ?_
      cases hf
      exact m_iret C hW dX11_man_98
    · exfalso
      have := tn_e c4 (0) (by decide)
      have := tn_e c7 (1) (by decide)
      have := tn_e c10 (2) (by decide)
      have := tn_e c13 (3) (by decide)
      have := tn_e c16 (4) (by decide)
      have := tn_e c19 (5) (by decide)
      omega
  · have hf := (if_pos c3).symm.trans hf
    refine lv_iconst C.1 C.2.1 dX11_man_13 ic_m1 ?_
    cases hf
    exact m_iret C hW dX11_man_14

def fX11_lamp (a0 : Nat) (a1 : Int32) (a2 : Int32) (S : MS) : Option (Int32 × MS) := (fX11_isLamp  a0 a1 (pI S a0 0 (0 : Int32))).bind fun q1 => (if q1 = (0 : Int32) then some ((-1 : Int32), pI S a0 0 (0 : Int32)) else (if a2 = (0 : Int32) then (if bnd a1 (lnM (gR (pI S a0 0 (0 : Int32)) a0 9)) = true then some (gI (pI S a0 0 (0 : Int32)) (gR (pI S a0 0 (0 : Int32)) a0 9) a1.toNatClampNeg, pI S a0 0 (0 : Int32)) else none) else if a2 = (1 : Int32) then (if bnd a1 (lnM (gR (pI S a0 0 (0 : Int32)) a0 10)) = true then some (gI (pI S a0 0 (0 : Int32)) (gR (pI S a0 0 (0 : Int32)) a0 10) a1.toNatClampNeg, pI S a0 0 (0 : Int32)) else none) else if a2 = (2 : Int32) then (if bnd a1 (lnM (gR (pI S a0 0 (0 : Int32)) a0 11)) = true then some (gI (pI S a0 0 (0 : Int32)) (gR (pI S a0 0 (0 : Int32)) a0 11) a1.toNatClampNeg, pI S a0 0 (0 : Int32)) else none) else if a2 = (3 : Int32) then (if bnd (0 : Int32) (lnM (gR (pI S a0 0 (0 : Int32)) a0 50)) = true then some (((gI (pI S a0 0 (0 : Int32)) (gR (pI S a0 0 (0 : Int32)) a0 50) (0 : Int32).toNatClampNeg) >>> (a1 &&& 31)) &&& (1 : Int32), pI S a0 0 (0 : Int32)) else none) else some ((-1 : Int32), pI S a0 0 (0 : Int32))))
set_option maxRecDepth 100000 in
theorem cX11_lamp_ok {l : Launch} {G : Gv} {L : List Nat} {S : MS} {a0 : Nat} {a1 : Int32} {a2 : Int32} {q : (Int32 × MS)} (ha0 : a0 < shM.1 ∧ shM.2.1 a0 = 11) (hf : fX11_lamp a0 a1 a2 S = some q) : Mt l yX11_lamp cX11_lamp 3 (some .int) (2) G shM L S [.ref (ad L a0), .int a1, .int a2] (some (.int q.1)) q.2 := by
  refine m_enter (lv := [(0, .ref (ad L a0)), (1, .int a1), (2, .int a2)]) (plainFor_of_name (by decide)) (Nat.le_of_ble_eq_true rfl) rfl ?_
  intro p e s m below meth c A ls C hW hl
  unfold fX11_lamp at hf
  refine lv_aload_n C.1 C.2.1 dX11_lamp_0 rfl (lv_at hl 0 rfl) ?_
  refine lv_iconst C.1 C.2.1 dX11_lamp_1 ic_0 ?_
  refine m_puti C hW ha0 fpX11_163 dX11_lamp_2 (fun H locs hW => ?_)
  refine lv_aload_n C.1 C.2.1 dX11_lamp_5 rfl (lv_at hl 0 rfl) ?_
  refine lv_iload_n C.1 C.2.1 dX11_lamp_6 rfl (lv_at hl 1 rfl) ?_
  obtain ⟨q1, h2, hf⟩ := bd hf
  refine m_callV (As := [.int a1]) (rest := []) C hW ha0 (cX11_isLamp_ok  ha0 h2) mlX11_481 (by decide) rfl hl.1 rfl (Nat.le_of_ble_eq_true rfl) (Nat.le_of_ble_eq_true rfl) (Nat.le_of_ble_eq_true rfl) dX11_lamp_7 (fun H locs hW => ?_)
  refine lv_if_ne (tgt := 15) C.1 C.2.1 dX11_lamp_10 rfl (fun c3 => ?_) (fun c3 => ?_)
  · have hf := (if_neg c3).symm.trans hf
    refine lv_iload_n C.1 C.2.1 dX11_lamp_15 rfl (lv_at hl 2 rfl) ?_
    by_cases c4 : a2 = (0 : Int32)
    · have hf := (if_pos c4).symm.trans hf
      refine lv_tableIn (tgt := 48) C.1 C.2.1 dX11_lamp_16 (by rw [c4]; decide) (by rw [c4]; decide) (by rw [c4]; rfl) rfl ?_
      refine lv_aload_n C.1 C.2.1 dX11_lamp_48 rfl (lv_at hl 0 rfl) ?_
      refine m_getr C hW ha0 flX11_31 (by decide) dX11_lamp_49 (fun hk5 => ?_)
      refine lv_iload_n C.1 C.2.1 dX11_lamp_52 rfl (lv_at hl 1 rfl) ?_
      obtain ⟨hb6, hf⟩ := gd hf
      refine m_iald C hW hk5 hb6 dX11_lamp_53 ?_
      cases hf
      exact m_iret C hW dX11_lamp_54
    have hf := (if_neg c4).symm.trans hf
    by_cases c7 : a2 = (1 : Int32)
    · have hf := (if_pos c7).symm.trans hf
      refine lv_tableIn (tgt := 55) C.1 C.2.1 dX11_lamp_16 (by rw [c7]; decide) (by rw [c7]; decide) (by rw [c7]; rfl) rfl ?_
      refine lv_aload_n C.1 C.2.1 dX11_lamp_55 rfl (lv_at hl 0 rfl) ?_
      refine m_getr C hW ha0 flX11_34 (by decide) dX11_lamp_56 (fun hk8 => ?_)
      refine lv_iload_n C.1 C.2.1 dX11_lamp_59 rfl (lv_at hl 1 rfl) ?_
      obtain ⟨hb9, hf⟩ := gd hf
      refine m_iald C hW hk8 hb9 dX11_lamp_60 ?_
      cases hf
      exact m_iret C hW dX11_lamp_61
    have hf := (if_neg c7).symm.trans hf
    by_cases c10 : a2 = (2 : Int32)
    · have hf := (if_pos c10).symm.trans hf
      refine lv_tableIn (tgt := 62) C.1 C.2.1 dX11_lamp_16 (by rw [c10]; decide) (by rw [c10]; decide) (by rw [c10]; rfl) rfl ?_
      refine lv_aload_n C.1 C.2.1 dX11_lamp_62 rfl (lv_at hl 0 rfl) ?_
      refine m_getr C hW ha0 flX11_37 (by decide) dX11_lamp_63 (fun hk11 => ?_)
      refine lv_iload_n C.1 C.2.1 dX11_lamp_66 rfl (lv_at hl 1 rfl) ?_
      obtain ⟨hb12, hf⟩ := gd hf
      refine m_iald C hW hk11 hb12 dX11_lamp_67 ?_
      cases hf
      exact m_iret C hW dX11_lamp_68
    have hf := (if_neg c10).symm.trans hf
    by_cases c13 : a2 = (3 : Int32)
    · have hf := (if_pos c13).symm.trans hf
      refine lv_tableIn (tgt := 69) C.1 C.2.1 dX11_lamp_16 (by rw [c13]; decide) (by rw [c13]; decide) (by rw [c13]; rfl) rfl ?_
      refine lv_aload_n C.1 C.2.1 dX11_lamp_69 rfl (lv_at hl 0 rfl) ?_
      refine m_getr C hW ha0 flX11_114 (by decide) dX11_lamp_70 (fun hk14 => ?_)
      refine lv_iconst C.1 C.2.1 dX11_lamp_73 ic_0 ?_
      obtain ⟨hb15, hf⟩ := gd hf
      refine m_iald C hW hk14 hb15 dX11_lamp_74 ?_
      refine lv_iload_n C.1 C.2.1 dX11_lamp_75 rfl (lv_at hl 1 rfl) ?_
      refine lv_ishr C.1 C.2.1 dX11_lamp_76 ?_
      refine lv_iconst C.1 C.2.1 dX11_lamp_77 ic_1 ?_
      refine lv_iand C.1 C.2.1 dX11_lamp_78 ?_
      cases hf
      exact m_iret C hW dX11_lamp_79
    have hf := (if_neg c13).symm.trans hf
    by_cases ho16 : a2.toInt < 0 ∨ 3 < a2.toInt
    · refine lv_tableOut (tgt := 80) C.1 C.2.1 dX11_lamp_16 ho16 rfl ?_
      refine lv_iconst C.1 C.2.1 dX11_lamp_80 ic_m1 ?_
      cases hf
      exact m_iret C hW dX11_lamp_81
    · exfalso
      have := tn_e c4 (0) (by decide)
      have := tn_e c7 (1) (by decide)
      have := tn_e c10 (2) (by decide)
      have := tn_e c13 (3) (by decide)
      omega
  · have hf := (if_pos c3).symm.trans hf
    refine lv_iconst C.1 C.2.1 dX11_lamp_13 ic_m1 ?_
    cases hf
    exact m_iret C hW dX11_lamp_14

def fX11_keepNow_45  (x0 : Nat) (S : MS) : Option MS := (fX11_copies  x0 ((3 : Int32) + (gI S x0 56)) (0 : Int32) S).bind fun q1 => some (pI q1 x0 56 ((gI q1 x0 56) + (1 : Int32)))
def fX11_keepNow_11  : Nat → Nat → Int32 → MS → Option MS
  | 0, _, _, _ => none
  | n + 1, x0, x1, S => (if (20 : Int32) ≤ x1 then fX11_keepNow_45  x0 (pI S x0 56 ((gI S x0 56) - (1 : Int32))) else (fX11_copies  x0 (((3 : Int32) + x1) - (1 : Int32)) ((3 : Int32) + x1) S).bind fun q4 => (fX11_keepNow_11  n) x0 (x1 + (1 : Int32)) q4)
def fX11_keepNow (a0 : Nat) (S : MS) : Option MS := (if gI S a0 56 = (20 : Int32) then fX11_keepNow_11  1000 a0 (1 : Int32) S else fX11_keepNow_45  a0 S)
set_option maxRecDepth 100000 in
theorem kX11_keepNow_45 {p : Program} {l : Launch} {e : Env} {s : State} {m : MethodId} {av : Array Value} {below : List Frame} {meth : Method} {c : Code} {A : Nat → Prop} {G : Gv} {L : List Nat} {q : MS}  (C : mC p s m av meth c cX11_keepNow RX11 2 none) : ∀ (x0 : Nat) (S : MS) (H : Heap) (locs : List Loc) (ls : Array Slot), (x0 < shM.1 ∧ shM.2.1 x0 = 11) → mW G shM L S A s H locs → lv_has ls 2 [(0, .ref (ad L x0))] → fX11_keepNow_45  x0 S = some q → W p l e (rmd (2)) s m av below meth c H locs 0 0 (MQ below (mQ G shM L q none A) av s 0 0 A) (F0 m 45 ls []) := by
  intro x0 S H locs ls hx0 hW hl hf
  unfold fX11_keepNow_45 at hf
  refine lv_aload_n C.1 C.2.1 dX11_keepNow_45 rfl (lv_at hl 0 rfl) ?_
  refine lv_iconst C.1 C.2.1 dX11_keepNow_46 ic_3 ?_
  refine lv_aload_n C.1 C.2.1 dX11_keepNow_47 rfl (lv_at hl 0 rfl) ?_
  refine m_geti C hW hx0 flX11_335 dX11_keepNow_48 ?_
  refine lv_iadd C.1 C.2.1 dX11_keepNow_51 ?_
  refine lv_iconst C.1 C.2.1 dX11_keepNow_52 ic_0 ?_
  obtain ⟨q1, h2, hf⟩ := bd hf
  refine m_callV (As := [.int ((3 : Int32) + (gI S x0 56)), .int (0 : Int32)]) (rest := []) C hW hx0 (cX11_copies_ok  hx0 h2) mlX11_488 (by decide) rfl hl.1 rfl (Nat.le_of_ble_eq_true rfl) (Nat.le_of_ble_eq_true rfl) (Nat.le_of_ble_eq_true rfl) dX11_keepNow_53 (fun H locs hW => ?_)
  refine lv_aload_n C.1 C.2.1 dX11_keepNow_56 rfl (lv_at hl 0 rfl) ?_
  refine lv_dup C.1 C.2.1 dX11_keepNow_57 rfl ?_
  refine m_geti C hW hx0 flX11_335 dX11_keepNow_58 ?_
  refine lv_iconst C.1 C.2.1 dX11_keepNow_61 ic_1 ?_
  refine lv_iadd C.1 C.2.1 dX11_keepNow_62 ?_
  refine m_puti C hW hx0 fpX11_335 dX11_keepNow_63 (fun H locs hW => ?_)
  cases hf
  exact m_vret C hW dX11_keepNow_66

set_option maxRecDepth 100000 in
theorem kX11_keepNow_11 {p : Program} {l : Launch} {e : Env} {s : State} {m : MethodId} {av : Array Value} {below : List Frame} {meth : Method} {c : Code} {A : Nat → Prop} {G : Gv} {L : List Nat} {q : MS}  (C : mC p s m av meth c cX11_keepNow RX11 2 none) : ∀ (n : Nat) (x0 : Nat) (x1 : Int32) (S : MS) (H : Heap) (locs : List Loc) (ls : Array Slot), (x0 < shM.1 ∧ shM.2.1 x0 = 11) → mW G shM L S A s H locs → lv_has ls 2 [(0, .ref (ad L x0)), (1, .int x1)] → fX11_keepNow_11  n x0 x1 S = some q → W p l e (rmd (2)) s m av below meth c H locs 0 0 (MQ below (mQ G shM L q none A) av s 0 0 A) (F0 m 11 ls []) := by
  intro n
  induction n with
  | zero =>
    intro x0 x1 S H locs ls hx0 hW hl hf
    rw [fX11_keepNow_11] at hf
    cases hf
  | succ n ih =>
    intro x0 x1 S H locs ls hx0 hW hl hf
    rw [fX11_keepNow_11] at hf
    refine lv_iload_n C.1 C.2.1 dX11_keepNow_11 rfl (lv_at hl 1 rfl) ?_
    refine lv_bipush C.1 C.2.1 dX11_keepNow_12 bp_20 ?_
    refine lv_icmp_ge (tgt := 35) C.1 C.2.1 dX11_keepNow_14 rfl (fun c3 => ?_) (fun c3 => ?_)
    · have hf := (if_pos c3).symm.trans hf
      refine lv_aload_n C.1 C.2.1 dX11_keepNow_35 rfl (lv_at hl 0 rfl) ?_
      refine lv_dup C.1 C.2.1 dX11_keepNow_36 rfl ?_
      refine m_geti C hW hx0 flX11_335 dX11_keepNow_37 ?_
      refine lv_iconst C.1 C.2.1 dX11_keepNow_40 ic_1 ?_
      refine lv_isub C.1 C.2.1 dX11_keepNow_41 ?_
      refine m_puti C hW hx0 fpX11_335 dX11_keepNow_42 (fun H locs hW => ?_)
      exact kX11_keepNow_45  C x0 _ _ _ _ hx0 hW (lv_sub hl [0] rfl) hf
    · have hf := (if_neg c3).symm.trans hf
      refine lv_aload_n C.1 C.2.1 dX11_keepNow_17 rfl (lv_at hl 0 rfl) ?_
      refine lv_iconst C.1 C.2.1 dX11_keepNow_18 ic_3 ?_
      refine lv_iload_n C.1 C.2.1 dX11_keepNow_19 rfl (lv_at hl 1 rfl) ?_
      refine lv_iadd C.1 C.2.1 dX11_keepNow_20 ?_
      refine lv_iconst C.1 C.2.1 dX11_keepNow_21 ic_1 ?_
      refine lv_isub C.1 C.2.1 dX11_keepNow_22 ?_
      refine lv_iconst C.1 C.2.1 dX11_keepNow_23 ic_3 ?_
      refine lv_iload_n C.1 C.2.1 dX11_keepNow_24 rfl (lv_at hl 1 rfl) ?_
      refine lv_iadd C.1 C.2.1 dX11_keepNow_25 ?_
      obtain ⟨q4, h5, hf⟩ := bd hf
      refine m_callV (As := [.int (((3 : Int32) + x1) - (1 : Int32)), .int ((3 : Int32) + x1)]) (rest := []) C hW hx0 (cX11_copies_ok  hx0 h5) mlX11_488 (by decide) rfl hl.1 rfl (Nat.le_of_ble_eq_true rfl) (Nat.le_of_ble_eq_true rfl) (Nat.le_of_ble_eq_true rfl) dX11_keepNow_26 (fun H locs hW => ?_)
      refine lv_iinc (v := x1 + (1 : Int32)) (lv' := [(1, .int (x1 + (1 : Int32))), (0, .ref (ad L x0))]) C.1 C.2.1 dX11_keepNow_29 hl (k := 1) rfl (congrArg (fun z => x1 + z) ic_1) (by decide) rfl (fun ls hl => ?_)
      refine lv_goto (tgt := 11) C.1 C.2.1 dX11_keepNow_32 rfl ?_
      exact ih x0 (x1 + (1 : Int32)) _ _ _ _ hx0 hW (lv_sub hl [1, 0] rfl) hf

set_option maxRecDepth 100000 in
theorem cX11_keepNow_ok {l : Launch} {G : Gv} {L : List Nat} {S : MS} {a0 : Nat} {q : MS} (ha0 : a0 < shM.1 ∧ shM.2.1 a0 = 11) (hf : fX11_keepNow a0 S = some q) : Mt l yX11_keepNow cX11_keepNow 2 none (2) G shM L S [.ref (ad L a0)] none q := by
  refine m_enter (lv := [(0, .ref (ad L a0))]) (plainFor_of_name (by decide)) (Nat.le_of_ble_eq_true rfl) rfl ?_
  intro p e s m below meth c A ls C hW hl
  unfold fX11_keepNow at hf
  refine lv_aload_n C.1 C.2.1 dX11_keepNow_0 rfl (lv_at hl 0 rfl) ?_
  refine m_geti C hW ha0 flX11_335 dX11_keepNow_1 ?_
  refine lv_bipush C.1 C.2.1 dX11_keepNow_4 bp_20 ?_
  refine lv_icmp_ne (tgt := 45) C.1 C.2.1 dX11_keepNow_6 rfl (fun c6 => ?_) (fun c6 => ?_)
  · have hf := (if_neg c6).symm.trans hf
    exact kX11_keepNow_45  C a0 _ _ _ _ ha0 hW (lv_sub hl [0] rfl) hf
  · have hf := (if_pos c6).symm.trans hf
    refine lv_iconst C.1 C.2.1 dX11_keepNow_9 ic_1 ?_
    refine lv_istore_n (lv' := [(1, .int (1 : Int32)), (0, .ref (ad L a0))]) C.1 C.2.1 dX11_keepNow_10 rfl hl (by decide) rfl (fun ls hl => ?_)
    exact kX11_keepNow_11  C 1000 a0 (1 : Int32) _ _ _ _ ha0 hW (lv_sub hl [1, 0] rfl) hf

def fX11_isRest (a0 : Nat) (a1 : Int32) (a2 : Int32) (a3 : Int32) (S : MS) : Option Int32 := (fX11_hasOf  a0 a1 a2 ((1 : Int32) - (a3 / (2 : Int32))) (a3 - (a3 / (2 : Int32)) * (2 : Int32)) S).bind fun q1 => (fX11_hasOf  a0 a1 a2 (a3 / (2 : Int32)) (a3 - (a3 / (2 : Int32)) * (2 : Int32)) S).bind fun q3 => (if q3 < q1 then some (0 : Int32) else (fX11_hasOf  a0 a2 a1 ((1 : Int32) - (a3 - (a3 / (2 : Int32)) * (2 : Int32))) (a3 / (2 : Int32)) S).bind fun q6 => (fX11_hasOf  a0 a2 a1 (a3 - (a3 / (2 : Int32)) * (2 : Int32)) (a3 / (2 : Int32)) S).bind fun q8 => (if q8 < q6 then some (0 : Int32) else some (1 : Int32)))
set_option maxRecDepth 100000 in
theorem cX11_isRest_ok {l : Launch} {G : Gv} {L : List Nat} {S : MS} {a0 : Nat} {a1 : Int32} {a2 : Int32} {a3 : Int32} {q : Int32} (ha0 : a0 < shM.1 ∧ shM.2.1 a0 = 11) (hf : fX11_isRest a0 a1 a2 a3 S = some q) : Mt l yX11_isRest cX11_isRest 6 (some .boolean) (2) G shM L S [.ref (ad L a0), .int a1, .int a2, .int a3] (some (.int q)) S := by
  refine m_enter (lv := [(0, .ref (ad L a0)), (1, .int a1), (2, .int a2), (3, .int a3)]) (plainFor_of_name (by decide)) (Nat.le_of_ble_eq_true rfl) rfl ?_
  intro p e s m below meth c A ls C hW hl
  unfold fX11_isRest at hf
  refine lv_iload_n C.1 C.2.1 dX11_isRest_0 rfl (lv_at hl 3 rfl) ?_
  refine lv_iconst C.1 C.2.1 dX11_isRest_1 ic_2 ?_
  refine lv_idiv C.1 C.2.1 dX11_isRest_2 (by decide) ?_
  refine lv_istore (lv' := [(4, .int (a3 / (2 : Int32))), (0, .ref (ad L a0)), (1, .int a1), (2, .int a2), (3, .int a3)]) C.1 C.2.1 dX11_isRest_3 hl (by decide) rfl (fun ls hl => ?_)
  refine lv_iload_n C.1 C.2.1 dX11_isRest_5 rfl (lv_at hl 4 rfl) ?_
  refine lv_iconst C.1 C.2.1 dX11_isRest_6 ic_2 ?_
  refine lv_irem C.1 C.2.1 dX11_isRest_7 (by decide) ?_
  refine lv_istore (lv' := [(5, .int (a3 - (a3 / (2 : Int32)) * (2 : Int32))), (4, .int (a3 / (2 : Int32))), (0, .ref (ad L a0)), (1, .int a1), (2, .int a2), (3, .int a3)]) C.1 C.2.1 dX11_isRest_8 hl (by decide) rfl (fun ls hl => ?_)
  refine lv_aload_n C.1 C.2.1 dX11_isRest_10 rfl (lv_at hl 2 rfl) ?_
  refine lv_iload_n C.1 C.2.1 dX11_isRest_11 rfl (lv_at hl 3 rfl) ?_
  refine lv_iload_n C.1 C.2.1 dX11_isRest_12 rfl (lv_at hl 4 rfl) ?_
  refine lv_iconst C.1 C.2.1 dX11_isRest_13 ic_1 ?_
  refine lv_iload C.1 C.2.1 dX11_isRest_14 (lv_at hl 1 rfl) ?_
  refine lv_isub C.1 C.2.1 dX11_isRest_16 ?_
  refine lv_iload C.1 C.2.1 dX11_isRest_17 (lv_at hl 0 rfl) ?_
  obtain ⟨q1, h2, hf⟩ := bd hf
  refine m_callV (As := [.int a1, .int a2, .int ((1 : Int32) - (a3 / (2 : Int32))), .int (a3 - (a3 / (2 : Int32)) * (2 : Int32))]) (rest := []) C hW ha0 (cX11_hasOf_ok  ha0 h2) mlX11_509 (by decide) rfl hl.1 rfl (Nat.le_of_ble_eq_true rfl) (Nat.le_of_ble_eq_true rfl) (Nat.le_of_ble_eq_true rfl) dX11_isRest_19 (fun H locs hW => ?_)
  refine lv_aload_n C.1 C.2.1 dX11_isRest_22 rfl (lv_at hl 2 rfl) ?_
  refine lv_iload_n C.1 C.2.1 dX11_isRest_23 rfl (lv_at hl 3 rfl) ?_
  refine lv_iload_n C.1 C.2.1 dX11_isRest_24 rfl (lv_at hl 4 rfl) ?_
  refine lv_iload C.1 C.2.1 dX11_isRest_25 (lv_at hl 1 rfl) ?_
  refine lv_iload C.1 C.2.1 dX11_isRest_27 (lv_at hl 0 rfl) ?_
  obtain ⟨q3, h4, hf⟩ := bd hf
  refine m_callV (As := [.int a1, .int a2, .int (a3 / (2 : Int32)), .int (a3 - (a3 / (2 : Int32)) * (2 : Int32))]) (rest := [.int q1]) C hW ha0 (cX11_hasOf_ok  ha0 h4) mlX11_509 (by decide) rfl hl.1 rfl (Nat.le_of_ble_eq_true rfl) (Nat.le_of_ble_eq_true rfl) (Nat.le_of_ble_eq_true rfl) dX11_isRest_29 (fun H locs hW => ?_)
  refine lv_icmp_gt (tgt := 64) C.1 C.2.1 dX11_isRest_32 rfl (fun c5 => ?_) (fun c5 => ?_)
  · have hf := (if_pos c5).symm.trans hf
    refine lv_iconst C.1 C.2.1 dX11_isRest_64 ic_0 ?_
    cases hf
    exact m_zret C hW rfl dX11_isRest_65
  · have hf := (if_neg c5).symm.trans hf
    refine lv_aload_n C.1 C.2.1 dX11_isRest_35 rfl (lv_at hl 2 rfl) ?_
    refine lv_iload_n C.1 C.2.1 dX11_isRest_36 rfl (lv_at hl 4 rfl) ?_
    refine lv_iload_n C.1 C.2.1 dX11_isRest_37 rfl (lv_at hl 3 rfl) ?_
    refine lv_iconst C.1 C.2.1 dX11_isRest_38 ic_1 ?_
    refine lv_iload C.1 C.2.1 dX11_isRest_39 (lv_at hl 0 rfl) ?_
    refine lv_isub C.1 C.2.1 dX11_isRest_41 ?_
    refine lv_iload C.1 C.2.1 dX11_isRest_42 (lv_at hl 1 rfl) ?_
    obtain ⟨q6, h7, hf⟩ := bd hf
    refine m_callV (As := [.int a2, .int a1, .int ((1 : Int32) - (a3 - (a3 / (2 : Int32)) * (2 : Int32))), .int (a3 / (2 : Int32))]) (rest := []) C hW ha0 (cX11_hasOf_ok  ha0 h7) mlX11_509 (by decide) rfl hl.1 rfl (Nat.le_of_ble_eq_true rfl) (Nat.le_of_ble_eq_true rfl) (Nat.le_of_ble_eq_true rfl) dX11_isRest_44 (fun H locs hW => ?_)
    refine lv_aload_n C.1 C.2.1 dX11_isRest_47 rfl (lv_at hl 2 rfl) ?_
    refine lv_iload_n C.1 C.2.1 dX11_isRest_48 rfl (lv_at hl 4 rfl) ?_
    refine lv_iload_n C.1 C.2.1 dX11_isRest_49 rfl (lv_at hl 3 rfl) ?_
    refine lv_iload C.1 C.2.1 dX11_isRest_50 (lv_at hl 0 rfl) ?_
    refine lv_iload C.1 C.2.1 dX11_isRest_52 (lv_at hl 1 rfl) ?_
    obtain ⟨q8, h9, hf⟩ := bd hf
    refine m_callV (As := [.int a2, .int a1, .int (a3 - (a3 / (2 : Int32)) * (2 : Int32)), .int (a3 / (2 : Int32))]) (rest := [.int q6]) C hW ha0 (cX11_hasOf_ok  ha0 h9) mlX11_509 (by decide) rfl hl.1 rfl (Nat.le_of_ble_eq_true rfl) (Nat.le_of_ble_eq_true rfl) (Nat.le_of_ble_eq_true rfl) dX11_isRest_54 (fun H locs hW => ?_)
    refine lv_icmp_gt (tgt := 64) C.1 C.2.1 dX11_isRest_57 rfl (fun c10 => ?_) (fun c10 => ?_)
    · have hf := (if_pos c10).symm.trans hf
      refine lv_iconst C.1 C.2.1 dX11_isRest_64 ic_0 ?_
      cases hf
      exact m_zret C hW rfl dX11_isRest_65
    · have hf := (if_neg c10).symm.trans hf
      refine lv_iconst C.1 C.2.1 dX11_isRest_60 ic_1 ?_
      refine lv_goto (tgt := 65) C.1 C.2.1 dX11_isRest_61 rfl ?_
      cases hf
      exact m_zret C hW rfl dX11_isRest_65

def fX11_areTwo (a0 : Nat) (a1 : Int32) (a2 : Int32) (S : MS) : Option Int32 := (fX11_isMan  a0 a1 S).bind fun q1 => (if q1 = (0 : Int32) then some (0 : Int32) else (fX11_isMan  a0 a2 S).bind fun q4 => (if q4 = (0 : Int32) then some (0 : Int32) else (if a1 = a2 then some (0 : Int32) else some (1 : Int32))))
set_option maxRecDepth 100000 in
theorem cX11_areTwo_ok {l : Launch} {G : Gv} {L : List Nat} {S : MS} {a0 : Nat} {a1 : Int32} {a2 : Int32} {q : Int32} (ha0 : a0 < shM.1 ∧ shM.2.1 a0 = 11) (hf : fX11_areTwo a0 a1 a2 S = some q) : Mt l yX11_areTwo cX11_areTwo 3 (some .boolean) (2) G shM L S [.ref (ad L a0), .int a1, .int a2] (some (.int q)) S := by
  refine m_enter (lv := [(0, .ref (ad L a0)), (1, .int a1), (2, .int a2)]) (plainFor_of_name (by decide)) (Nat.le_of_ble_eq_true rfl) rfl ?_
  intro p e s m below meth c A ls C hW hl
  unfold fX11_areTwo at hf
  refine lv_aload_n C.1 C.2.1 dX11_areTwo_0 rfl (lv_at hl 0 rfl) ?_
  refine lv_iload_n C.1 C.2.1 dX11_areTwo_1 rfl (lv_at hl 1 rfl) ?_
  obtain ⟨q1, h2, hf⟩ := bd hf
  refine m_callV (As := [.int a1]) (rest := []) C hW ha0 (cX11_isMan_ok  ha0 h2) mlX11_475 (by decide) rfl hl.1 rfl (Nat.le_of_ble_eq_true rfl) (Nat.le_of_ble_eq_true rfl) (Nat.le_of_ble_eq_true rfl) dX11_areTwo_2 (fun H locs hW => ?_)
  refine lv_if_eq (tgt := 25) C.1 C.2.1 dX11_areTwo_5 rfl (fun c3 => ?_) (fun c3 => ?_)
  · have hf := (if_pos c3).symm.trans hf
    refine lv_iconst C.1 C.2.1 dX11_areTwo_25 ic_0 ?_
    cases hf
    exact m_zret C hW rfl dX11_areTwo_26
  · have hf := (if_neg c3).symm.trans hf
    refine lv_aload_n C.1 C.2.1 dX11_areTwo_8 rfl (lv_at hl 0 rfl) ?_
    refine lv_iload_n C.1 C.2.1 dX11_areTwo_9 rfl (lv_at hl 2 rfl) ?_
    obtain ⟨q4, h5, hf⟩ := bd hf
    refine m_callV (As := [.int a2]) (rest := []) C hW ha0 (cX11_isMan_ok  ha0 h5) mlX11_475 (by decide) rfl hl.1 rfl (Nat.le_of_ble_eq_true rfl) (Nat.le_of_ble_eq_true rfl) (Nat.le_of_ble_eq_true rfl) dX11_areTwo_10 (fun H locs hW => ?_)
    refine lv_if_eq (tgt := 25) C.1 C.2.1 dX11_areTwo_13 rfl (fun c6 => ?_) (fun c6 => ?_)
    · have hf := (if_pos c6).symm.trans hf
      refine lv_iconst C.1 C.2.1 dX11_areTwo_25 ic_0 ?_
      cases hf
      exact m_zret C hW rfl dX11_areTwo_26
    · have hf := (if_neg c6).symm.trans hf
      refine lv_iload_n C.1 C.2.1 dX11_areTwo_16 rfl (lv_at hl 1 rfl) ?_
      refine lv_iload_n C.1 C.2.1 dX11_areTwo_17 rfl (lv_at hl 2 rfl) ?_
      refine lv_icmp_eq (tgt := 25) C.1 C.2.1 dX11_areTwo_18 rfl (fun c7 => ?_) (fun c7 => ?_)
      · have hf := (if_pos c7).symm.trans hf
        refine lv_iconst C.1 C.2.1 dX11_areTwo_25 ic_0 ?_
        cases hf
        exact m_zret C hW rfl dX11_areTwo_26
      · have hf := (if_neg c7).symm.trans hf
        refine lv_iconst C.1 C.2.1 dX11_areTwo_21 ic_1 ?_
        refine lv_goto (tgt := 26) C.1 C.2.1 dX11_areTwo_22 rfl ?_
        cases hf
        exact m_zret C hW rfl dX11_areTwo_26

def fX11_clear_36  : Nat → Nat → Int32 → Int32 → Int64 → Int64 → Int32 → MS → Option (Int64 × MS)
  | 0, _, _, _, _, _, _, _ => none
  | n + 1, x0, x1, x2, x3, x5, x7, S => (if x1 ≤ x7 then (fX11_common  x3 x5 S).bind fun q2 => (if x2 = (0 : Int32) then (if q2 = (0 : Int64) then none else some (x3 / q2, S)) else (if q2 = (0 : Int64) then none else some (x5 / q2, S))) else (if bnd (10 : Int32) (lnM (gR S x0 3)) = true then (fX11_clear_36  n) x0 x1 x2 (x3 * ((100 : Int64) - ((gI S (gR S x0 3) (10 : Int32).toNatClampNeg).toInt64))) (x5 * (100 : Int64)) (x7 + (1 : Int32)) S else none))
def fX11_clear (a0 : Nat) (a1 : Int32) (a2 : Int32) (S : MS) : Option (Int64 × MS) := (if a1 < (0 : Int32) then some ((-1 : Int64), pI S a0 0 (0 : Int32)) else (if (6 : Int32) < a1 then some ((-1 : Int64), pI S a0 0 (0 : Int32)) else (if a2 < (0 : Int32) then some ((-1 : Int64), pI S a0 0 (0 : Int32)) else (if a2 ≤ (1 : Int32) then fX11_clear_36  1000 a0 a1 a2 (1 : Int64) (1 : Int64) (0 : Int32) (pI S a0 0 (0 : Int32)) else some ((-1 : Int64), pI S a0 0 (0 : Int32))))))
set_option maxRecDepth 100000 in
theorem kX11_clear_36 {p : Program} {l : Launch} {e : Env} {s : State} {m : MethodId} {av : Array Value} {below : List Frame} {meth : Method} {c : Code} {A : Nat → Prop} {G : Gv} {L : List Nat} {q : (Int64 × MS)}  (C : mC p s m av meth c cX11_clear RX11 9 (some .long)) : ∀ (n : Nat) (x0 : Nat) (x1 : Int32) (x2 : Int32) (x3 : Int64) (x5 : Int64) (x7 : Int32) (S : MS) (H : Heap) (locs : List Loc) (ls : Array Slot), (x0 < shM.1 ∧ shM.2.1 x0 = 11) → mW G shM L S A s H locs → lv_has ls 9 [(0, .ref (ad L x0)), (1, .int x1), (2, .int x2), (3, .long x3), (5, .long x5), (7, .int x7)] → fX11_clear_36  n x0 x1 x2 x3 x5 x7 S = some q → W p l e (rmd (2)) s m av below meth c H locs 0 0 (MQ below (mQ G shM L q.2 (some (.long q.1)) A) av s 0 0 A) (F0 m 36 ls []) := by
  intro n
  induction n with
  | zero =>
    intro x0 x1 x2 x3 x5 x7 S H locs ls hx0 hW hl hf
    rw [fX11_clear_36] at hf
    cases hf
  | succ n ih =>
    intro x0 x1 x2 x3 x5 x7 S H locs ls hx0 hW hl hf
    rw [fX11_clear_36] at hf
    refine lv_iload C.1 C.2.1 dX11_clear_36 (lv_at hl 5 rfl) ?_
    refine lv_iload_n C.1 C.2.1 dX11_clear_38 rfl (lv_at hl 1 rfl) ?_
    refine lv_icmp_ge (tgt := 71) C.1 C.2.1 dX11_clear_39 rfl (fun c1 => ?_) (fun c1 => ?_)
    · have hf := (if_pos c1).symm.trans hf
      refine lv_lload_n C.1 C.2.1 dX11_clear_71 rfl (lv_at hl 3 rfl) ?_
      refine lv_lload C.1 C.2.1 dX11_clear_72 (lv_at hl 4 rfl) ?_
      obtain ⟨q2, h3, hf⟩ := bd hf
      refine m_callS (As := [.long x3, .long x5]) (rest := []) C hW (cX11_common_ok   h3) mlX11_526 rfl hl.1 rfl (Nat.le_of_ble_eq_true rfl) (Nat.le_of_ble_eq_true rfl) (Nat.le_of_ble_eq_true rfl) dX11_clear_74 (fun H locs hW => ?_)
      refine lv_lstore (lv' := [(7, .long q2), (0, .ref (ad L x0)), (1, .int x1), (2, .int x2), (3, .long x3), (5, .long x5)]) C.1 C.2.1 dX11_clear_77 hl (by decide) rfl (fun ls hl => ?_)
      refine lv_iload_n C.1 C.2.1 dX11_clear_79 rfl (lv_at hl 3 rfl) ?_
      refine lv_if_ne (tgt := 90) C.1 C.2.1 dX11_clear_80 rfl (fun c4 => ?_) (fun c4 => ?_)
      · have hf := (if_neg c4).symm.trans hf
        refine lv_lload C.1 C.2.1 dX11_clear_90 (lv_at hl 5 rfl) ?_
        refine lv_lload C.1 C.2.1 dX11_clear_92 (lv_at hl 0 rfl) ?_
        obtain ⟨hz5, hf⟩ := nz hf
        refine lv_ldiv C.1 C.2.1 dX11_clear_94 hz5 ?_
        cases hf
        exact m_lret C hW dX11_clear_95
      · have hf := (if_pos c4).symm.trans hf
        refine lv_lload_n C.1 C.2.1 dX11_clear_83 rfl (lv_at hl 4 rfl) ?_
        refine lv_lload C.1 C.2.1 dX11_clear_84 (lv_at hl 0 rfl) ?_
        obtain ⟨hz6, hf⟩ := nz hf
        refine lv_ldiv C.1 C.2.1 dX11_clear_86 hz6 ?_
        refine lv_goto (tgt := 95) C.1 C.2.1 dX11_clear_87 rfl ?_
        cases hf
        exact m_lret C hW dX11_clear_95
    · have hf := (if_neg c1).symm.trans hf
      refine lv_lload_n C.1 C.2.1 dX11_clear_42 rfl (lv_at hl 3 rfl) ?_
      refine lv_ldc2 C.1 C.2.1 C.2.2.2.1 (C.2.2.2.2.1 _ kw_1989) dX11_clear_43 ?_
      refine lv_aload_n C.1 C.2.1 dX11_clear_46 rfl (lv_at hl 0 rfl) ?_
      refine m_getr C hW hx0 flX11_13 (by decide) dX11_clear_47 (fun hk7 => ?_)
      refine lv_bipush C.1 C.2.1 dX11_clear_50 bp_10 ?_
      obtain ⟨hb8, hf⟩ := gd hf
      refine m_iald C hW hk7 hb8 dX11_clear_52 ?_
      refine lv_i2l C.1 C.2.1 dX11_clear_53 rfl ?_
      refine lv_lsub C.1 C.2.1 dX11_clear_54 ?_
      refine lv_lmul C.1 C.2.1 dX11_clear_55 ?_
      refine lv_lstore_n (lv' := [(3, .long (x3 * ((100 : Int64) - ((gI S (gR S x0 3) (10 : Int32).toNatClampNeg).toInt64)))), (0, .ref (ad L x0)), (1, .int x1), (2, .int x2), (5, .long x5), (7, .int x7)]) C.1 C.2.1 dX11_clear_56 rfl hl (by decide) rfl (fun ls hl => ?_)
      refine lv_lload C.1 C.2.1 dX11_clear_57 (lv_at hl 4 rfl) ?_
      refine lv_ldc2 C.1 C.2.1 C.2.2.2.1 (C.2.2.2.2.1 _ kw_1989) dX11_clear_59 ?_
      refine lv_lmul C.1 C.2.1 dX11_clear_62 ?_
      refine lv_lstore (lv' := [(5, .long (x5 * (100 : Int64))), (3, .long (x3 * ((100 : Int64) - ((gI S (gR S x0 3) (10 : Int32).toNatClampNeg).toInt64)))), (0, .ref (ad L x0)), (1, .int x1), (2, .int x2), (7, .int x7)]) C.1 C.2.1 dX11_clear_63 hl (by decide) rfl (fun ls hl => ?_)
      refine lv_iinc (v := x7 + (1 : Int32)) (lv' := [(7, .int (x7 + (1 : Int32))), (5, .long (x5 * (100 : Int64))), (3, .long (x3 * ((100 : Int64) - ((gI S (gR S x0 3) (10 : Int32).toNatClampNeg).toInt64)))), (0, .ref (ad L x0)), (1, .int x1), (2, .int x2)]) C.1 C.2.1 dX11_clear_65 hl (k := 5) rfl (congrArg (fun z => x7 + z) ic_1) (by decide) rfl (fun ls hl => ?_)
      refine lv_goto (tgt := 36) C.1 C.2.1 dX11_clear_68 rfl ?_
      exact ih x0 x1 x2 (x3 * ((100 : Int64) - ((gI S (gR S x0 3) (10 : Int32).toNatClampNeg).toInt64))) (x5 * (100 : Int64)) (x7 + (1 : Int32)) _ _ _ _ hx0 hW (lv_sub hl [3, 4, 5, 2, 1, 0] rfl) hf

set_option maxRecDepth 100000 in
theorem cX11_clear_ok {l : Launch} {G : Gv} {L : List Nat} {S : MS} {a0 : Nat} {a1 : Int32} {a2 : Int32} {q : (Int64 × MS)} (ha0 : a0 < shM.1 ∧ shM.2.1 a0 = 11) (hf : fX11_clear a0 a1 a2 S = some q) : Mt l yX11_clear cX11_clear 9 (some .long) (2) G shM L S [.ref (ad L a0), .int a1, .int a2] (some (.long q.1)) q.2 := by
  refine m_enter (lv := [(0, .ref (ad L a0)), (1, .int a1), (2, .int a2)]) (plainFor_of_name (by decide)) (Nat.le_of_ble_eq_true rfl) rfl ?_
  intro p e s m below meth c A ls C hW hl
  unfold fX11_clear at hf
  refine lv_aload_n C.1 C.2.1 dX11_clear_0 rfl (lv_at hl 0 rfl) ?_
  refine lv_iconst C.1 C.2.1 dX11_clear_1 ic_0 ?_
  refine m_puti C hW ha0 fpX11_163 dX11_clear_2 (fun H locs hW => ?_)
  refine lv_iload_n C.1 C.2.1 dX11_clear_5 rfl (lv_at hl 1 rfl) ?_
  refine lv_if_lt (tgt := 24) C.1 C.2.1 dX11_clear_6 rfl (fun c9 => ?_) (fun c9 => ?_)
  · have hf := (if_pos c9).symm.trans hf
    refine lv_ldc2 C.1 C.2.1 C.2.2.2.1 (C.2.2.2.2.1 _ kw_1988) dX11_clear_24 ?_
    cases hf
    exact m_lret C hW dX11_clear_27
  · have hf := (if_neg c9).symm.trans hf
    refine lv_iload_n C.1 C.2.1 dX11_clear_9 rfl (lv_at hl 1 rfl) ?_
    refine lv_bipush C.1 C.2.1 dX11_clear_10 bp_6 ?_
    refine lv_icmp_gt (tgt := 24) C.1 C.2.1 dX11_clear_12 rfl (fun c10 => ?_) (fun c10 => ?_)
    · have hf := (if_pos c10).symm.trans hf
      refine lv_ldc2 C.1 C.2.1 C.2.2.2.1 (C.2.2.2.2.1 _ kw_1988) dX11_clear_24 ?_
      cases hf
      exact m_lret C hW dX11_clear_27
    · have hf := (if_neg c10).symm.trans hf
      refine lv_iload_n C.1 C.2.1 dX11_clear_15 rfl (lv_at hl 2 rfl) ?_
      refine lv_if_lt (tgt := 24) C.1 C.2.1 dX11_clear_16 rfl (fun c11 => ?_) (fun c11 => ?_)
      · have hf := (if_pos c11).symm.trans hf
        refine lv_ldc2 C.1 C.2.1 C.2.2.2.1 (C.2.2.2.2.1 _ kw_1988) dX11_clear_24 ?_
        cases hf
        exact m_lret C hW dX11_clear_27
      · have hf := (if_neg c11).symm.trans hf
        refine lv_iload_n C.1 C.2.1 dX11_clear_19 rfl (lv_at hl 2 rfl) ?_
        refine lv_iconst C.1 C.2.1 dX11_clear_20 ic_1 ?_
        refine lv_icmp_le (tgt := 28) C.1 C.2.1 dX11_clear_21 rfl (fun c12 => ?_) (fun c12 => ?_)
        · have hf := (if_pos c12).symm.trans hf
          refine lv_lconst C.1 C.2.1 dX11_clear_28 lc_1 ?_
          refine lv_lstore_n (lv' := [(3, .long (1 : Int64)), (0, .ref (ad L a0)), (1, .int a1), (2, .int a2)]) C.1 C.2.1 dX11_clear_29 rfl hl (by decide) rfl (fun ls hl => ?_)
          refine lv_lconst C.1 C.2.1 dX11_clear_30 lc_1 ?_
          refine lv_lstore (lv' := [(5, .long (1 : Int64)), (3, .long (1 : Int64)), (0, .ref (ad L a0)), (1, .int a1), (2, .int a2)]) C.1 C.2.1 dX11_clear_31 hl (by decide) rfl (fun ls hl => ?_)
          refine lv_iconst C.1 C.2.1 dX11_clear_33 ic_0 ?_
          refine lv_istore (lv' := [(7, .int (0 : Int32)), (5, .long (1 : Int64)), (3, .long (1 : Int64)), (0, .ref (ad L a0)), (1, .int a1), (2, .int a2)]) C.1 C.2.1 dX11_clear_34 hl (by decide) rfl (fun ls hl => ?_)
          exact kX11_clear_36  C 1000 a0 a1 a2 (1 : Int64) (1 : Int64) (0 : Int32) _ _ _ _ ha0 hW (lv_sub hl [3, 4, 5, 2, 1, 0] rfl) hf
        · have hf := (if_neg c12).symm.trans hf
          refine lv_ldc2 C.1 C.2.1 C.2.2.2.1 (C.2.2.2.2.1 _ kw_1988) dX11_clear_24 ?_
          cases hf
          exact m_lret C hW dX11_clear_27

def fX11_see_113  (x0 : Nat) (S : MS) : Option (Int32 × MS) := some ((gI S x0 66) - (1 : Int32), S)
def fX11_see_93  (x0 : Nat) (S : MS) : Option (Int32 × MS) := (if bnd (gI S x0 66) (lnM (gR S x0 72)) = true then fX11_see_113  x0 (pI (pI S (gR S x0 72) ((gI S x0 66).toNatClampNeg) (-1 : Int32)) x0 66 ((gI (pI S (gR S x0 72) ((gI S x0 66).toNatClampNeg) (-1 : Int32)) x0 66) + (1 : Int32))) else none)
def fX11_see_66  (x0 : Nat) (x3 : Int32) (x4 : Int32) (x5 : Int32) (S : MS) : Option (Int32 × MS) := (if bnd (gI S x0 66) (lnM (gR S x0 70)) = true then (if bnd (gI (pI S (gR S x0 70) ((gI S x0 66).toNatClampNeg) (((8 : Int32) * x3) + x4)) x0 66) (lnM (gR (pI S (gR S x0 70) ((gI S x0 66).toNatClampNeg) (((8 : Int32) * x3) + x4)) x0 71)) = true then fX11_see_93  x0 (pI (pI S (gR S x0 70) ((gI S x0 66).toNatClampNeg) (((8 : Int32) * x3) + x4)) (gR (pI S (gR S x0 70) ((gI S x0 66).toNatClampNeg) (((8 : Int32) * x3) + x4)) x0 71) ((gI (pI S (gR S x0 70) ((gI S x0 66).toNatClampNeg) (((8 : Int32) * x3) + x4)) x0 66).toNatClampNeg) (vp_nar .boolean x5)) else none) else none)
def fX11_see (a0 : Nat) (a1 : Int32) (a2 : Int32) (a3 : Int32) (a4 : Int32) (a5 : Int32) (S : MS) : Option (Int32 × MS) := (if a1 < (1 : Int32) then some ((-1 : Int32), pI S a0 0 (0 : Int32)) else (if (40 : Int32) < a1 then some ((-1 : Int32), pI S a0 0 (0 : Int32)) else (if a2 < (0 : Int32) then some ((-1 : Int32), pI S a0 0 (0 : Int32)) else (if (1 : Int32) < a2 then some ((-1 : Int32), pI S a0 0 (0 : Int32)) else (fX11_isCell  a0 a3 a4 (pI S a0 0 (0 : Int32))).bind fun q11 => (if q11 = (0 : Int32) then some ((-1 : Int32), pI S a0 0 (0 : Int32)) else (if gI (pI S a0 0 (0 : Int32)) a0 66 = (24 : Int32) then some ((-1 : Int32), pI S a0 0 (0 : Int32)) else (if bnd (gI (pI S a0 0 (0 : Int32)) a0 66) (lnM (gR (pI S a0 0 (0 : Int32)) a0 68)) = true then (if bnd (gI (pI (pI S a0 0 (0 : Int32)) (gR (pI S a0 0 (0 : Int32)) a0 68) ((gI (pI S a0 0 (0 : Int32)) a0 66).toNatClampNeg) a1) a0 66) (lnM (gR (pI (pI S a0 0 (0 : Int32)) (gR (pI S a0 0 (0 : Int32)) a0 68) ((gI (pI S a0 0 (0 : Int32)) a0 66).toNatClampNeg) a1) a0 69)) = true then fX11_see_66  a0 a3 a4 a5 (pI (pI (pI S a0 0 (0 : Int32)) (gR (pI S a0 0 (0 : Int32)) a0 68) ((gI (pI S a0 0 (0 : Int32)) a0 66).toNatClampNeg) a1) (gR (pI (pI S a0 0 (0 : Int32)) (gR (pI S a0 0 (0 : Int32)) a0 68) ((gI (pI S a0 0 (0 : Int32)) a0 66).toNatClampNeg) a1) a0 69) ((gI (pI (pI S a0 0 (0 : Int32)) (gR (pI S a0 0 (0 : Int32)) a0 68) ((gI (pI S a0 0 (0 : Int32)) a0 66).toNatClampNeg) a1) a0 66).toNatClampNeg) a2) else none) else none)))))))
set_option maxRecDepth 100000 in
theorem kX11_see_113 {p : Program} {l : Launch} {e : Env} {s : State} {m : MethodId} {av : Array Value} {below : List Frame} {meth : Method} {c : Code} {A : Nat → Prop} {G : Gv} {L : List Nat} {q : (Int32 × MS)}  (C : mC p s m av meth c cX11_see RX11 6 (some .int)) : ∀ (x0 : Nat) (S : MS) (H : Heap) (locs : List Loc) (ls : Array Slot), (x0 < shM.1 ∧ shM.2.1 x0 = 11) → mW G shM L S A s H locs → lv_has ls 6 [(0, .ref (ad L x0))] → fX11_see_113  x0 S = some q → W p l e (rmd (2)) s m av below meth c H locs 0 0 (MQ below (mQ G shM L q.2 (some (.int q.1)) A) av s 0 0 A) (F0 m 113 ls []) := by
  intro x0 S H locs ls hx0 hW hl hf
  unfold fX11_see_113 at hf
  refine lv_aload_n C.1 C.2.1 dX11_see_113 rfl (lv_at hl 0 rfl) ?_
  refine m_geti C hW hx0 flX11_328 dX11_see_114 ?_
  refine lv_iconst C.1 C.2.1 dX11_see_117 ic_1 ?_
  refine lv_isub C.1 C.2.1 dX11_see_118 ?_
  cases hf
  exact m_iret C hW dX11_see_119

set_option maxRecDepth 100000 in
theorem kX11_see_93 {p : Program} {l : Launch} {e : Env} {s : State} {m : MethodId} {av : Array Value} {below : List Frame} {meth : Method} {c : Code} {A : Nat → Prop} {G : Gv} {L : List Nat} {q : (Int32 × MS)}  (C : mC p s m av meth c cX11_see RX11 6 (some .int)) : ∀ (x0 : Nat) (S : MS) (H : Heap) (locs : List Loc) (ls : Array Slot), (x0 < shM.1 ∧ shM.2.1 x0 = 11) → mW G shM L S A s H locs → lv_has ls 6 [(0, .ref (ad L x0))] → fX11_see_93  x0 S = some q → W p l e (rmd (2)) s m av below meth c H locs 0 0 (MQ below (mQ G shM L q.2 (some (.int q.1)) A) av s 0 0 A) (F0 m 93 ls []) := by
  intro x0 S H locs ls hx0 hW hl hf
  unfold fX11_see_93 at hf
  refine lv_aload_n C.1 C.2.1 dX11_see_93 rfl (lv_at hl 0 rfl) ?_
  refine m_getr C hW hx0 flX11_154 (by decide) dX11_see_94 (fun hk1 => ?_)
  refine lv_aload_n C.1 C.2.1 dX11_see_97 rfl (lv_at hl 0 rfl) ?_
  refine m_geti C hW hx0 flX11_328 dX11_see_98 ?_
  refine lv_iconst C.1 C.2.1 dX11_see_101 ic_m1 ?_
  obtain ⟨hb2, hf⟩ := gd hf
  refine m_iast C hW hk1 hb2 dX11_see_102 (fun H locs hW => ?_)
  refine lv_aload_n C.1 C.2.1 dX11_see_103 rfl (lv_at hl 0 rfl) ?_
  refine lv_dup C.1 C.2.1 dX11_see_104 rfl ?_
  refine m_geti C hW hx0 flX11_328 dX11_see_105 ?_
  refine lv_iconst C.1 C.2.1 dX11_see_108 ic_1 ?_
  refine lv_iadd C.1 C.2.1 dX11_see_109 ?_
  refine m_puti C hW hx0 fpX11_328 dX11_see_110 (fun H locs hW => ?_)
  exact kX11_see_113  C x0 _ _ _ _ hx0 hW (lv_sub hl [0] rfl) hf

set_option maxRecDepth 100000 in
theorem kX11_see_66 {p : Program} {l : Launch} {e : Env} {s : State} {m : MethodId} {av : Array Value} {below : List Frame} {meth : Method} {c : Code} {A : Nat → Prop} {G : Gv} {L : List Nat} {q : (Int32 × MS)}  (C : mC p s m av meth c cX11_see RX11 6 (some .int)) : ∀ (x0 : Nat) (x3 : Int32) (x4 : Int32) (x5 : Int32) (S : MS) (H : Heap) (locs : List Loc) (ls : Array Slot), (x0 < shM.1 ∧ shM.2.1 x0 = 11) → mW G shM L S A s H locs → lv_has ls 6 [(0, .ref (ad L x0)), (3, .int x3), (4, .int x4), (5, .int x5)] → fX11_see_66  x0 x3 x4 x5 S = some q → W p l e (rmd (2)) s m av below meth c H locs 0 0 (MQ below (mQ G shM L q.2 (some (.int q.1)) A) av s 0 0 A) (F0 m 66 ls []) := by
  intro x0 x3 x4 x5 S H locs ls hx0 hW hl hf
  unfold fX11_see_66 at hf
  refine lv_aload_n C.1 C.2.1 dX11_see_66 rfl (lv_at hl 0 rfl) ?_
  refine m_getr C hW hx0 flX11_147 (by decide) dX11_see_67 (fun hk3 => ?_)
  refine lv_aload_n C.1 C.2.1 dX11_see_70 rfl (lv_at hl 0 rfl) ?_
  refine m_geti C hW hx0 flX11_328 dX11_see_71 ?_
  refine lv_bipush C.1 C.2.1 dX11_see_74 bp_8 ?_
  refine lv_iload_n C.1 C.2.1 dX11_see_76 rfl (lv_at hl 1 rfl) ?_
  refine lv_imul C.1 C.2.1 dX11_see_77 ?_
  refine lv_iload C.1 C.2.1 dX11_see_78 (lv_at hl 2 rfl) ?_
  refine lv_iadd C.1 C.2.1 dX11_see_80 ?_
  obtain ⟨hb4, hf⟩ := gd hf
  refine m_iast C hW hk3 hb4 dX11_see_81 (fun H locs hW => ?_)
  refine lv_aload_n C.1 C.2.1 dX11_see_82 rfl (lv_at hl 0 rfl) ?_
  refine m_getr C hW hx0 flX11_150 (by decide) dX11_see_83 (fun hk5 => ?_)
  refine lv_aload_n C.1 C.2.1 dX11_see_86 rfl (lv_at hl 0 rfl) ?_
  refine m_geti C hW hx0 flX11_328 dX11_see_87 ?_
  refine lv_iload C.1 C.2.1 dX11_see_90 (lv_at hl 3 rfl) ?_
  obtain ⟨hb6, hf⟩ := gd hf
  refine m_zast C hW hk5 hb6 dX11_see_92 (fun H locs hW => ?_)
  exact kX11_see_93  C x0 _ _ _ _ hx0 hW (lv_sub hl [0] rfl) hf

set_option maxRecDepth 100000 in
theorem cX11_see_ok {l : Launch} {G : Gv} {L : List Nat} {S : MS} {a0 : Nat} {a1 : Int32} {a2 : Int32} {a3 : Int32} {a4 : Int32} {a5 : Int32} {q : (Int32 × MS)} (ha0 : a0 < shM.1 ∧ shM.2.1 a0 = 11) (hf : fX11_see a0 a1 a2 a3 a4 a5 S = some q) : Mt l yX11_see cX11_see 6 (some .int) (2) G shM L S [.ref (ad L a0), .int a1, .int a2, .int a3, .int a4, .int a5] (some (.int q.1)) q.2 := by
  refine m_enter (lv := [(0, .ref (ad L a0)), (1, .int a1), (2, .int a2), (3, .int a3), (4, .int a4), (5, .int a5)]) (plainFor_of_name (by decide)) (Nat.le_of_ble_eq_true rfl) rfl ?_
  intro p e s m below meth c A ls C hW hl
  unfold fX11_see at hf
  refine lv_aload_n C.1 C.2.1 dX11_see_0 rfl (lv_at hl 0 rfl) ?_
  refine lv_iconst C.1 C.2.1 dX11_see_1 ic_0 ?_
  refine m_puti C hW ha0 fpX11_163 dX11_see_2 (fun H locs hW => ?_)
  refine lv_iload_n C.1 C.2.1 dX11_see_5 rfl (lv_at hl 1 rfl) ?_
  refine lv_iconst C.1 C.2.1 dX11_see_6 ic_1 ?_
  refine lv_icmp_lt (tgt := 44) C.1 C.2.1 dX11_see_7 rfl (fun c7 => ?_) (fun c7 => ?_)
  · have hf := (if_pos c7).symm.trans hf
    refine lv_iconst C.1 C.2.1 dX11_see_44 ic_m1 ?_
    cases hf
    exact m_iret C hW dX11_see_45
  · have hf := (if_neg c7).symm.trans hf
    refine lv_iload_n C.1 C.2.1 dX11_see_10 rfl (lv_at hl 1 rfl) ?_
    refine lv_bipush C.1 C.2.1 dX11_see_11 bp_40 ?_
    refine lv_icmp_gt (tgt := 44) C.1 C.2.1 dX11_see_13 rfl (fun c8 => ?_) (fun c8 => ?_)
    · have hf := (if_pos c8).symm.trans hf
      refine lv_iconst C.1 C.2.1 dX11_see_44 ic_m1 ?_
      cases hf
      exact m_iret C hW dX11_see_45
    · have hf := (if_neg c8).symm.trans hf
      refine lv_iload_n C.1 C.2.1 dX11_see_16 rfl (lv_at hl 2 rfl) ?_
      refine lv_if_lt (tgt := 44) C.1 C.2.1 dX11_see_17 rfl (fun c9 => ?_) (fun c9 => ?_)
      · have hf := (if_pos c9).symm.trans hf
        refine lv_iconst C.1 C.2.1 dX11_see_44 ic_m1 ?_
        cases hf
        exact m_iret C hW dX11_see_45
      · have hf := (if_neg c9).symm.trans hf
        refine lv_iload_n C.1 C.2.1 dX11_see_20 rfl (lv_at hl 2 rfl) ?_
        refine lv_iconst C.1 C.2.1 dX11_see_21 ic_1 ?_
        refine lv_icmp_gt (tgt := 44) C.1 C.2.1 dX11_see_22 rfl (fun c10 => ?_) (fun c10 => ?_)
        · have hf := (if_pos c10).symm.trans hf
          refine lv_iconst C.1 C.2.1 dX11_see_44 ic_m1 ?_
          cases hf
          exact m_iret C hW dX11_see_45
        · have hf := (if_neg c10).symm.trans hf
          refine lv_aload_n C.1 C.2.1 dX11_see_25 rfl (lv_at hl 0 rfl) ?_
          refine lv_iload_n C.1 C.2.1 dX11_see_26 rfl (lv_at hl 3 rfl) ?_
          refine lv_iload C.1 C.2.1 dX11_see_27 (lv_at hl 4 rfl) ?_
          obtain ⟨q11, h12, hf⟩ := bd hf
          refine m_callV (As := [.int a3, .int a4]) (rest := []) C hW ha0 (cX11_isCell_ok  ha0 h12) mlX11_399 (by decide) rfl hl.1 rfl (Nat.le_of_ble_eq_true rfl) (Nat.le_of_ble_eq_true rfl) (Nat.le_of_ble_eq_true rfl) dX11_see_29 (fun H locs hW => ?_)
          refine lv_if_eq (tgt := 44) C.1 C.2.1 dX11_see_32 rfl (fun c13 => ?_) (fun c13 => ?_)
          · have hf := (if_pos c13).symm.trans hf
            refine lv_iconst C.1 C.2.1 dX11_see_44 ic_m1 ?_
            cases hf
            exact m_iret C hW dX11_see_45
          · have hf := (if_neg c13).symm.trans hf
            refine lv_aload_n C.1 C.2.1 dX11_see_35 rfl (lv_at hl 0 rfl) ?_
            refine m_geti C hW ha0 flX11_328 dX11_see_36 ?_
            refine lv_bipush C.1 C.2.1 dX11_see_39 bp_24 ?_
            refine lv_icmp_ne (tgt := 46) C.1 C.2.1 dX11_see_41 rfl (fun c14 => ?_) (fun c14 => ?_)
            · have hf := (if_neg c14).symm.trans hf
              refine lv_aload_n C.1 C.2.1 dX11_see_46 rfl (lv_at hl 0 rfl) ?_
              refine m_getr C hW ha0 flX11_141 (by decide) dX11_see_47 (fun hk15 => ?_)
              refine lv_aload_n C.1 C.2.1 dX11_see_50 rfl (lv_at hl 0 rfl) ?_
              refine m_geti C hW ha0 flX11_328 dX11_see_51 ?_
              refine lv_iload_n C.1 C.2.1 dX11_see_54 rfl (lv_at hl 1 rfl) ?_
              obtain ⟨hb16, hf⟩ := gd hf
              refine m_iast C hW hk15 hb16 dX11_see_55 (fun H locs hW => ?_)
              refine lv_aload_n C.1 C.2.1 dX11_see_56 rfl (lv_at hl 0 rfl) ?_
              refine m_getr C hW ha0 flX11_144 (by decide) dX11_see_57 (fun hk17 => ?_)
              refine lv_aload_n C.1 C.2.1 dX11_see_60 rfl (lv_at hl 0 rfl) ?_
              refine m_geti C hW ha0 flX11_328 dX11_see_61 ?_
              refine lv_iload_n C.1 C.2.1 dX11_see_64 rfl (lv_at hl 2 rfl) ?_
              obtain ⟨hb18, hf⟩ := gd hf
              refine m_iast C hW hk17 hb18 dX11_see_65 (fun H locs hW => ?_)
              exact kX11_see_66  C a0 a3 a4 a5 _ _ _ _ ha0 hW (lv_sub hl [0, 3, 4, 5] rfl) hf
            · have hf := (if_pos c14).symm.trans hf
              refine lv_iconst C.1 C.2.1 dX11_see_44 ic_m1 ?_
              cases hf
              exact m_iret C hW dX11_see_45

def fX11_isSo_109 (K2 : Nat → Int32 → Int32 → MS → Option Int32) (x0 : Nat) (x1 : Int32) (x2 : Int32) (S : MS) : Option Int32 := K2 x0 x1 (x2 + (1 : Int32)) S
def fX11_isSo_98 (K2 : Nat → Int32 → Int32 → MS → Option Int32) (x0 : Nat) (x1 : Int32) (x2 : Int32) (y0 : Int32) (S : MS) : Option Int32 := (if bnd x2 (lnM (gR S x0 71)) = true then (if y0 = gI S (gR S x0 71) x2.toNatClampNeg then fX11_isSo_109 K2 x0 x1 x2 S else some (0 : Int32)) else none)
def fX11_isSo_82 (K2 : Nat → Int32 → Int32 → MS → Option Int32) (x0 : Nat) (x1 : Int32) (x2 : Int32) (y0 : Int32) (S : MS) : Option Int32 := (if bnd x2 (lnM (gR S x0 70)) = true then (if y0 = gI S (gR S x0 70) x2.toNatClampNeg then fX11_isSo_98 K2 x0 x1 x2 (1 : Int32) S else fX11_isSo_98 K2 x0 x1 x2 (0 : Int32) S) else none)
def fX11_isSo_2  : Nat → Nat → Int32 → Int32 → MS → Option Int32
  | 0, _, _, _, _ => none
  | n + 1, x0, x1, x2, S => (fX11_knownMany  x0 S).bind fun q7 => (if q7 ≤ x2 then some (1 : Int32) else (if bnd x2 (lnM (gR S x0 73)) = true then (if gI S (gR S x0 73) x2.toNatClampNeg = (0 : Int32) then (if bnd x2 (lnM (gR S x0 72)) = true then (if gI S (gR S x0 72) x2.toNatClampNeg = (-1 : Int32) then (if bnd x2 (lnM (gR S x0 68)) = true then (if gI S (gR S x0 68) x2.toNatClampNeg = x1 then (if bnd x2 (lnM (gR S x0 69)) = true then (if gI S (gR S x0 69) x2.toNatClampNeg = (0 : Int32) then (if bnd (1 : Int32) (lnM (gR S x0 46)) = true then (if bnd (1 : Int32) (lnM (gR S x0 47)) = true then fX11_isSo_82 (fX11_isSo_2  n) x0 x1 x2 (((8 : Int32) * (gI S (gR S x0 46) (1 : Int32).toNatClampNeg)) + (gI S (gR S x0 47) (1 : Int32).toNatClampNeg)) S else none) else none) else fX11_isSo_82 (fX11_isSo_2  n) x0 x1 x2 (((8 : Int32) * (gI S x0 58)) + (gI S x0 59)) S) else none) else fX11_isSo_109 (fX11_isSo_2  n) x0 x1 x2 S) else none) else fX11_isSo_109 (fX11_isSo_2  n) x0 x1 x2 S) else none) else fX11_isSo_109 (fX11_isSo_2  n) x0 x1 x2 S) else none))
def fX11_isSo (a0 : Nat) (a1 : Int32) (S : MS) : Option Int32 := fX11_isSo_2  1000 a0 a1 (0 : Int32) S
set_option maxRecDepth 100000 in
theorem kX11_isSo_109 {p : Program} {l : Launch} {e : Env} {s : State} {m : MethodId} {av : Array Value} {below : List Frame} {meth : Method} {c : Code} {A : Nat → Prop} {G : Gv} {L : List Nat} {S : MS} {q : Int32} {K2 : Nat → Int32 → Int32 → MS → Option Int32} (hK2 : ∀ (x0 : Nat) (x1 : Int32) (x2 : Int32) (H : Heap) (locs : List Loc) (ls : Array Slot), (x0 < shM.1 ∧ shM.2.1 x0 = 11) → mW G shM L S A s H locs → lv_has ls 4 [(0, .ref (ad L x0)), (1, .int x1), (2, .int x2)] → K2 x0 x1 x2 S = some q → W p l e (rmd (2)) s m av below meth c H locs 0 0 (MQ below (mQ G shM L S (some (.int q)) A) av s 0 0 A) (F0 m 2 ls [])) (C : mC p s m av meth c cX11_isSo RX11 4 (some .boolean)) : ∀ (x0 : Nat) (x1 : Int32) (x2 : Int32) (H : Heap) (locs : List Loc) (ls : Array Slot), (x0 < shM.1 ∧ shM.2.1 x0 = 11) → mW G shM L S A s H locs → lv_has ls 4 [(0, .ref (ad L x0)), (1, .int x1), (2, .int x2)] → fX11_isSo_109 K2 x0 x1 x2 S = some q → W p l e (rmd (2)) s m av below meth c H locs 0 0 (MQ below (mQ G shM L S (some (.int q)) A) av s 0 0 A) (F0 m 109 ls []) := by
  intro x0 x1 x2 H locs ls hx0 hW hl hf
  unfold fX11_isSo_109 at hf
  refine lv_iinc (v := x2 + (1 : Int32)) (lv' := [(2, .int (x2 + (1 : Int32))), (0, .ref (ad L x0)), (1, .int x1)]) C.1 C.2.1 dX11_isSo_109 hl (k := 2) rfl (congrArg (fun z => x2 + z) ic_1) (by decide) rfl (fun ls hl => ?_)
  refine lv_goto (tgt := 2) C.1 C.2.1 dX11_isSo_112 rfl ?_
  exact hK2 x0 x1 (x2 + (1 : Int32)) _ _ _ hx0 hW (lv_sub hl [1, 2, 0] rfl) hf

set_option maxRecDepth 100000 in
theorem kX11_isSo_98 {p : Program} {l : Launch} {e : Env} {s : State} {m : MethodId} {av : Array Value} {below : List Frame} {meth : Method} {c : Code} {A : Nat → Prop} {G : Gv} {L : List Nat} {S : MS} {q : Int32} {K2 : Nat → Int32 → Int32 → MS → Option Int32} (hK2 : ∀ (x0 : Nat) (x1 : Int32) (x2 : Int32) (H : Heap) (locs : List Loc) (ls : Array Slot), (x0 < shM.1 ∧ shM.2.1 x0 = 11) → mW G shM L S A s H locs → lv_has ls 4 [(0, .ref (ad L x0)), (1, .int x1), (2, .int x2)] → K2 x0 x1 x2 S = some q → W p l e (rmd (2)) s m av below meth c H locs 0 0 (MQ below (mQ G shM L S (some (.int q)) A) av s 0 0 A) (F0 m 2 ls [])) (C : mC p s m av meth c cX11_isSo RX11 4 (some .boolean)) : ∀ (x0 : Nat) (x1 : Int32) (x2 : Int32) (y0 : Int32) (H : Heap) (locs : List Loc) (ls : Array Slot), (x0 < shM.1 ∧ shM.2.1 x0 = 11) → mW G shM L S A s H locs → lv_has ls 4 [(0, .ref (ad L x0)), (1, .int x1), (2, .int x2)] → fX11_isSo_98 K2 x0 x1 x2 y0 S = some q → W p l e (rmd (2)) s m av below meth c H locs 0 0 (MQ below (mQ G shM L S (some (.int q)) A) av s 0 0 A) (F0 m 98 ls [.int y0]) := by
  intro x0 x1 x2 y0 H locs ls hx0 hW hl hf
  unfold fX11_isSo_98 at hf
  refine lv_aload_n C.1 C.2.1 dX11_isSo_98 rfl (lv_at hl 0 rfl) ?_
  refine m_getr C hW hx0 flX11_150 (by decide) dX11_isSo_99 (fun hk1 => ?_)
  refine lv_iload_n C.1 C.2.1 dX11_isSo_102 rfl (lv_at hl 2 rfl) ?_
  obtain ⟨hb2, hf⟩ := gd hf
  refine m_zald C hW hk1 hb2 dX11_isSo_103 ?_
  refine lv_icmp_eq (tgt := 109) C.1 C.2.1 dX11_isSo_104 rfl (fun c3 => ?_) (fun c3 => ?_)
  · have hf := (if_pos c3).symm.trans hf
    exact kX11_isSo_109 hK2 C x0 x1 x2 _ _ _ hx0 hW (lv_sub hl [0, 1, 2] rfl) hf
  · have hf := (if_neg c3).symm.trans hf
    refine lv_iconst C.1 C.2.1 dX11_isSo_107 ic_0 ?_
    cases hf
    exact m_zret C hW rfl dX11_isSo_108

set_option maxRecDepth 100000 in
theorem kX11_isSo_82 {p : Program} {l : Launch} {e : Env} {s : State} {m : MethodId} {av : Array Value} {below : List Frame} {meth : Method} {c : Code} {A : Nat → Prop} {G : Gv} {L : List Nat} {S : MS} {q : Int32} {K2 : Nat → Int32 → Int32 → MS → Option Int32} (hK2 : ∀ (x0 : Nat) (x1 : Int32) (x2 : Int32) (H : Heap) (locs : List Loc) (ls : Array Slot), (x0 < shM.1 ∧ shM.2.1 x0 = 11) → mW G shM L S A s H locs → lv_has ls 4 [(0, .ref (ad L x0)), (1, .int x1), (2, .int x2)] → K2 x0 x1 x2 S = some q → W p l e (rmd (2)) s m av below meth c H locs 0 0 (MQ below (mQ G shM L S (some (.int q)) A) av s 0 0 A) (F0 m 2 ls [])) (C : mC p s m av meth c cX11_isSo RX11 4 (some .boolean)) : ∀ (x0 : Nat) (x1 : Int32) (x2 : Int32) (y0 : Int32) (H : Heap) (locs : List Loc) (ls : Array Slot), (x0 < shM.1 ∧ shM.2.1 x0 = 11) → mW G shM L S A s H locs → lv_has ls 4 [(0, .ref (ad L x0)), (1, .int x1), (2, .int x2)] → fX11_isSo_82 K2 x0 x1 x2 y0 S = some q → W p l e (rmd (2)) s m av below meth c H locs 0 0 (MQ below (mQ G shM L S (some (.int q)) A) av s 0 0 A) (F0 m 82 ls [.int y0]) := by
  intro x0 x1 x2 y0 H locs ls hx0 hW hl hf
  unfold fX11_isSo_82 at hf
  refine lv_istore_n (lv' := [(3, .int y0), (0, .ref (ad L x0)), (1, .int x1), (2, .int x2)]) C.1 C.2.1 dX11_isSo_82 rfl hl (by decide) rfl (fun ls hl => ?_)
  refine lv_iload_n C.1 C.2.1 dX11_isSo_83 rfl (lv_at hl 0 rfl) ?_
  refine lv_aload_n C.1 C.2.1 dX11_isSo_84 rfl (lv_at hl 1 rfl) ?_
  refine m_getr C hW hx0 flX11_147 (by decide) dX11_isSo_85 (fun hk4 => ?_)
  refine lv_iload_n C.1 C.2.1 dX11_isSo_88 rfl (lv_at hl 3 rfl) ?_
  obtain ⟨hb5, hf⟩ := gd hf
  refine m_iald C hW hk4 hb5 dX11_isSo_89 ?_
  refine lv_icmp_ne (tgt := 97) C.1 C.2.1 dX11_isSo_90 rfl (fun c6 => ?_) (fun c6 => ?_)
  · have hf := (if_neg c6).symm.trans hf
    refine lv_iconst C.1 C.2.1 dX11_isSo_97 ic_0 ?_
    exact kX11_isSo_98 hK2 C x0 x1 x2 (0 : Int32) _ _ _ hx0 hW (lv_sub hl [1, 2, 3] rfl) hf
  · have hf := (if_pos c6).symm.trans hf
    refine lv_iconst C.1 C.2.1 dX11_isSo_93 ic_1 ?_
    refine lv_goto (tgt := 98) C.1 C.2.1 dX11_isSo_94 rfl ?_
    exact kX11_isSo_98 hK2 C x0 x1 x2 (1 : Int32) _ _ _ hx0 hW (lv_sub hl [1, 2, 3] rfl) hf

set_option maxRecDepth 100000 in
theorem kX11_isSo_2 {p : Program} {l : Launch} {e : Env} {s : State} {m : MethodId} {av : Array Value} {below : List Frame} {meth : Method} {c : Code} {A : Nat → Prop} {G : Gv} {L : List Nat} {S : MS} {q : Int32}  (C : mC p s m av meth c cX11_isSo RX11 4 (some .boolean)) : ∀ (n : Nat) (x0 : Nat) (x1 : Int32) (x2 : Int32) (H : Heap) (locs : List Loc) (ls : Array Slot), (x0 < shM.1 ∧ shM.2.1 x0 = 11) → mW G shM L S A s H locs → lv_has ls 4 [(0, .ref (ad L x0)), (1, .int x1), (2, .int x2)] → fX11_isSo_2  n x0 x1 x2 S = some q → W p l e (rmd (2)) s m av below meth c H locs 0 0 (MQ below (mQ G shM L S (some (.int q)) A) av s 0 0 A) (F0 m 2 ls []) := by
  intro n
  induction n with
  | zero =>
    intro x0 x1 x2 H locs ls hx0 hW hl hf
    rw [fX11_isSo_2] at hf
    cases hf
  | succ n ih =>
    intro x0 x1 x2 H locs ls hx0 hW hl hf
    rw [fX11_isSo_2] at hf
    refine lv_iload_n C.1 C.2.1 dX11_isSo_2 rfl (lv_at hl 2 rfl) ?_
    refine lv_aload_n C.1 C.2.1 dX11_isSo_3 rfl (lv_at hl 0 rfl) ?_
    obtain ⟨q7, h8, hf⟩ := bd hf
    refine m_callV (As := []) (rest := [.int x2]) C hW hx0 (cX11_knownMany_ok  hx0 h8) mlX11_529 (by decide) rfl hl.1 rfl (Nat.le_of_ble_eq_true rfl) (Nat.le_of_ble_eq_true rfl) (Nat.le_of_ble_eq_true rfl) dX11_isSo_4 (fun H locs hW => ?_)
    refine lv_icmp_ge (tgt := 115) C.1 C.2.1 dX11_isSo_7 rfl (fun c9 => ?_) (fun c9 => ?_)
    · have hf := (if_pos c9).symm.trans hf
      refine lv_iconst C.1 C.2.1 dX11_isSo_115 ic_1 ?_
      cases hf
      exact m_zret C hW rfl dX11_isSo_116
    · have hf := (if_neg c9).symm.trans hf
      refine lv_aload_n C.1 C.2.1 dX11_isSo_10 rfl (lv_at hl 0 rfl) ?_
      refine m_getr C hW hx0 flX11_157 (by decide) dX11_isSo_11 (fun hk10 => ?_)
      refine lv_iload_n C.1 C.2.1 dX11_isSo_14 rfl (lv_at hl 2 rfl) ?_
      obtain ⟨hb11, hf⟩ := gd hf
      refine m_zald C hW hk10 hb11 dX11_isSo_15 ?_
      refine lv_if_ne (tgt := 109) C.1 C.2.1 dX11_isSo_16 rfl (fun c12 => ?_) (fun c12 => ?_)
      · have hf := (if_neg c12).symm.trans hf
        exact kX11_isSo_109 ih C x0 x1 x2 _ _ _ hx0 hW (lv_sub hl [0, 1, 2] rfl) hf
      · have hf := (if_pos c12).symm.trans hf
        refine lv_aload_n C.1 C.2.1 dX11_isSo_19 rfl (lv_at hl 0 rfl) ?_
        refine m_getr C hW hx0 flX11_154 (by decide) dX11_isSo_20 (fun hk13 => ?_)
        refine lv_iload_n C.1 C.2.1 dX11_isSo_23 rfl (lv_at hl 2 rfl) ?_
        obtain ⟨hb14, hf⟩ := gd hf
        refine m_iald C hW hk13 hb14 dX11_isSo_24 ?_
        refine lv_iconst C.1 C.2.1 dX11_isSo_25 ic_m1 ?_
        refine lv_icmp_ne (tgt := 109) C.1 C.2.1 dX11_isSo_26 rfl (fun c15 => ?_) (fun c15 => ?_)
        · have hf := (if_neg c15).symm.trans hf
          exact kX11_isSo_109 ih C x0 x1 x2 _ _ _ hx0 hW (lv_sub hl [0, 1, 2] rfl) hf
        · have hf := (if_pos c15).symm.trans hf
          refine lv_aload_n C.1 C.2.1 dX11_isSo_29 rfl (lv_at hl 0 rfl) ?_
          refine m_getr C hW hx0 flX11_141 (by decide) dX11_isSo_30 (fun hk16 => ?_)
          refine lv_iload_n C.1 C.2.1 dX11_isSo_33 rfl (lv_at hl 2 rfl) ?_
          obtain ⟨hb17, hf⟩ := gd hf
          refine m_iald C hW hk16 hb17 dX11_isSo_34 ?_
          refine lv_iload_n C.1 C.2.1 dX11_isSo_35 rfl (lv_at hl 1 rfl) ?_
          refine lv_icmp_eq (tgt := 42) C.1 C.2.1 dX11_isSo_36 rfl (fun c18 => ?_) (fun c18 => ?_)
          · have hf := (if_pos c18).symm.trans hf
            refine lv_aload_n C.1 C.2.1 dX11_isSo_42 rfl (lv_at hl 0 rfl) ?_
            refine m_getr C hW hx0 flX11_144 (by decide) dX11_isSo_43 (fun hk19 => ?_)
            refine lv_iload_n C.1 C.2.1 dX11_isSo_46 rfl (lv_at hl 2 rfl) ?_
            obtain ⟨hb20, hf⟩ := gd hf
            refine m_iald C hW hk19 hb20 dX11_isSo_47 ?_
            refine lv_if_ne (tgt := 70) C.1 C.2.1 dX11_isSo_48 rfl (fun c21 => ?_) (fun c21 => ?_)
            · have hf := (if_neg c21).symm.trans hf
              refine lv_bipush C.1 C.2.1 dX11_isSo_70 bp_8 ?_
              refine lv_aload_n C.1 C.2.1 dX11_isSo_72 rfl (lv_at hl 0 rfl) ?_
              refine m_geti C hW hx0 flX11_387 dX11_isSo_73 ?_
              refine lv_imul C.1 C.2.1 dX11_isSo_76 ?_
              refine lv_aload_n C.1 C.2.1 dX11_isSo_77 rfl (lv_at hl 0 rfl) ?_
              refine m_geti C hW hx0 flX11_393 dX11_isSo_78 ?_
              refine lv_iadd C.1 C.2.1 dX11_isSo_81 ?_
              exact kX11_isSo_82 ih C x0 x1 x2 (((8 : Int32) * (gI S x0 58)) + (gI S x0 59)) _ _ _ hx0 hW (lv_sub hl [0, 1, 2] rfl) hf
            · have hf := (if_pos c21).symm.trans hf
              refine lv_bipush C.1 C.2.1 dX11_isSo_51 bp_8 ?_
              refine lv_aload_n C.1 C.2.1 dX11_isSo_53 rfl (lv_at hl 0 rfl) ?_
              refine m_getr C hW hx0 flX11_102 (by decide) dX11_isSo_54 (fun hk22 => ?_)
              refine lv_iconst C.1 C.2.1 dX11_isSo_57 ic_1 ?_
              obtain ⟨hb23, hf⟩ := gd hf
              refine m_iald C hW hk22 hb23 dX11_isSo_58 ?_
              refine lv_imul C.1 C.2.1 dX11_isSo_59 ?_
              refine lv_aload_n C.1 C.2.1 dX11_isSo_60 rfl (lv_at hl 0 rfl) ?_
              refine m_getr C hW hx0 flX11_105 (by decide) dX11_isSo_61 (fun hk24 => ?_)
              refine lv_iconst C.1 C.2.1 dX11_isSo_64 ic_1 ?_
              obtain ⟨hb25, hf⟩ := gd hf
              refine m_iald C hW hk24 hb25 dX11_isSo_65 ?_
              refine lv_iadd C.1 C.2.1 dX11_isSo_66 ?_
              refine lv_goto (tgt := 82) C.1 C.2.1 dX11_isSo_67 rfl ?_
              exact kX11_isSo_82 ih C x0 x1 x2 (((8 : Int32) * (gI S (gR S x0 46) (1 : Int32).toNatClampNeg)) + (gI S (gR S x0 47) (1 : Int32).toNatClampNeg)) _ _ _ hx0 hW (lv_sub hl [0, 1, 2] rfl) hf
          · have hf := (if_neg c18).symm.trans hf
            refine lv_goto (tgt := 109) C.1 C.2.1 dX11_isSo_39 rfl ?_
            exact kX11_isSo_109 ih C x0 x1 x2 _ _ _ hx0 hW (lv_sub hl [0, 1, 2] rfl) hf

set_option maxRecDepth 100000 in
theorem cX11_isSo_ok {l : Launch} {G : Gv} {L : List Nat} {S : MS} {a0 : Nat} {a1 : Int32} {q : Int32} (ha0 : a0 < shM.1 ∧ shM.2.1 a0 = 11) (hf : fX11_isSo a0 a1 S = some q) : Mt l yX11_isSo cX11_isSo 4 (some .boolean) (2) G shM L S [.ref (ad L a0), .int a1] (some (.int q)) S := by
  refine m_enter (lv := [(0, .ref (ad L a0)), (1, .int a1)]) (plainFor_of_name (by decide)) (Nat.le_of_ble_eq_true rfl) rfl ?_
  intro p e s m below meth c A ls C hW hl
  unfold fX11_isSo at hf
  refine lv_iconst C.1 C.2.1 dX11_isSo_0 ic_0 ?_
  refine lv_istore_n (lv' := [(2, .int (0 : Int32)), (0, .ref (ad L a0)), (1, .int a1)]) C.1 C.2.1 dX11_isSo_1 rfl hl (by decide) rfl (fun ls hl => ?_)
  exact kX11_isSo_2  C 1000 a0 a1 (0 : Int32) _ _ _ ha0 hW (lv_sub hl [1, 2, 0] rfl) hf

def fX11_undo (a0 : Nat) (S : MS) : Option (Int32 × MS) := (if gI (pI S a0 0 (0 : Int32)) a0 56 = (0 : Int32) then some ((-1 : Int32), pI S a0 0 (0 : Int32)) else (fX11_copies  a0 (0 : Int32) ((3 : Int32) + (gI (pI (pI S a0 0 (0 : Int32)) a0 56 ((gI (pI S a0 0 (0 : Int32)) a0 56) - (1 : Int32))) a0 56)) (pI (pI S a0 0 (0 : Int32)) a0 56 ((gI (pI S a0 0 (0 : Int32)) a0 56) - (1 : Int32)))).bind fun q2 => some (gI q2 a0 56, q2))
set_option maxRecDepth 100000 in
theorem cX11_undo_ok {l : Launch} {G : Gv} {L : List Nat} {S : MS} {a0 : Nat} {q : (Int32 × MS)} (ha0 : a0 < shM.1 ∧ shM.2.1 a0 = 11) (hf : fX11_undo a0 S = some q) : Mt l yX11_undo cX11_undo 1 (some .int) (2) G shM L S [.ref (ad L a0)] (some (.int q.1)) q.2 := by
  refine m_enter (lv := [(0, .ref (ad L a0))]) (plainFor_of_name (by decide)) (Nat.le_of_ble_eq_true rfl) rfl ?_
  intro p e s m below meth c A ls C hW hl
  unfold fX11_undo at hf
  refine lv_aload_n C.1 C.2.1 dX11_undo_0 rfl (lv_at hl 0 rfl) ?_
  refine lv_iconst C.1 C.2.1 dX11_undo_1 ic_0 ?_
  refine m_puti C hW ha0 fpX11_163 dX11_undo_2 (fun H locs hW => ?_)
  refine lv_aload_n C.1 C.2.1 dX11_undo_5 rfl (lv_at hl 0 rfl) ?_
  refine m_geti C hW ha0 flX11_335 dX11_undo_6 ?_
  refine lv_if_ne (tgt := 14) C.1 C.2.1 dX11_undo_9 rfl (fun c1 => ?_) (fun c1 => ?_)
  · have hf := (if_neg c1).symm.trans hf
    refine lv_aload_n C.1 C.2.1 dX11_undo_14 rfl (lv_at hl 0 rfl) ?_
    refine lv_dup C.1 C.2.1 dX11_undo_15 rfl ?_
    refine m_geti C hW ha0 flX11_335 dX11_undo_16 ?_
    refine lv_iconst C.1 C.2.1 dX11_undo_19 ic_1 ?_
    refine lv_isub C.1 C.2.1 dX11_undo_20 ?_
    refine m_puti C hW ha0 fpX11_335 dX11_undo_21 (fun H locs hW => ?_)
    refine lv_aload_n C.1 C.2.1 dX11_undo_24 rfl (lv_at hl 0 rfl) ?_
    refine lv_iconst C.1 C.2.1 dX11_undo_25 ic_0 ?_
    refine lv_iconst C.1 C.2.1 dX11_undo_26 ic_3 ?_
    refine lv_aload_n C.1 C.2.1 dX11_undo_27 rfl (lv_at hl 0 rfl) ?_
    refine m_geti C hW ha0 flX11_335 dX11_undo_28 ?_
    refine lv_iadd C.1 C.2.1 dX11_undo_31 ?_
    obtain ⟨q2, h3, hf⟩ := bd hf
    refine m_callV (As := [.int (0 : Int32), .int ((3 : Int32) + (gI (pI (pI S a0 0 (0 : Int32)) a0 56 ((gI (pI S a0 0 (0 : Int32)) a0 56) - (1 : Int32))) a0 56))]) (rest := []) C hW ha0 (cX11_copies_ok  ha0 h3) mlX11_488 (by decide) rfl hl.1 rfl (Nat.le_of_ble_eq_true rfl) (Nat.le_of_ble_eq_true rfl) (Nat.le_of_ble_eq_true rfl) dX11_undo_32 (fun H locs hW => ?_)
    refine lv_aload_n C.1 C.2.1 dX11_undo_35 rfl (lv_at hl 0 rfl) ?_
    refine m_geti C hW ha0 flX11_335 dX11_undo_36 ?_
    cases hf
    exact m_iret C hW dX11_undo_39
  · have hf := (if_pos c1).symm.trans hf
    refine lv_iconst C.1 C.2.1 dX11_undo_12 ic_m1 ?_
    cases hf
    exact m_iret C hW dX11_undo_13

def fX11_keep (a0 : Nat) (S : MS) : Option (Int32 × MS) := (fX11_copies  a0 (2 : Int32) (0 : Int32) (pI S a0 0 (0 : Int32))).bind fun q1 => (if bnd (0 : Int32) (lnM (gR (pI q1 a0 55 (1 : Int32)) a0 43)) = true then some (gI (pI q1 a0 55 (1 : Int32)) (gR (pI q1 a0 55 (1 : Int32)) a0 43) (0 : Int32).toNatClampNeg, pI q1 a0 55 (1 : Int32)) else none)
set_option maxRecDepth 100000 in
theorem cX11_keep_ok {l : Launch} {G : Gv} {L : List Nat} {S : MS} {a0 : Nat} {q : (Int32 × MS)} (ha0 : a0 < shM.1 ∧ shM.2.1 a0 = 11) (hf : fX11_keep a0 S = some q) : Mt l yX11_keep cX11_keep 1 (some .int) (2) G shM L S [.ref (ad L a0)] (some (.int q.1)) q.2 := by
  refine m_enter (lv := [(0, .ref (ad L a0))]) (plainFor_of_name (by decide)) (Nat.le_of_ble_eq_true rfl) rfl ?_
  intro p e s m below meth c A ls C hW hl
  unfold fX11_keep at hf
  refine lv_aload_n C.1 C.2.1 dX11_keep_0 rfl (lv_at hl 0 rfl) ?_
  refine lv_iconst C.1 C.2.1 dX11_keep_1 ic_0 ?_
  refine m_puti C hW ha0 fpX11_163 dX11_keep_2 (fun H locs hW => ?_)
  refine lv_aload_n C.1 C.2.1 dX11_keep_5 rfl (lv_at hl 0 rfl) ?_
  refine lv_iconst C.1 C.2.1 dX11_keep_6 ic_2 ?_
  refine lv_iconst C.1 C.2.1 dX11_keep_7 ic_0 ?_
  obtain ⟨q1, h2, hf⟩ := bd hf
  refine m_callV (As := [.int (2 : Int32), .int (0 : Int32)]) (rest := []) C hW ha0 (cX11_copies_ok  ha0 h2) mlX11_488 (by decide) rfl hl.1 rfl (Nat.le_of_ble_eq_true rfl) (Nat.le_of_ble_eq_true rfl) (Nat.le_of_ble_eq_true rfl) dX11_keep_8 (fun H locs hW => ?_)
  refine lv_aload_n C.1 C.2.1 dX11_keep_11 rfl (lv_at hl 0 rfl) ?_
  refine lv_iconst C.1 C.2.1 dX11_keep_12 ic_1 ?_
  refine m_putz C hW ha0 fpX11_331 rfl dX11_keep_13 (fun H locs hW => ?_)
  refine lv_aload_n C.1 C.2.1 dX11_keep_16 rfl (lv_at hl 0 rfl) ?_
  refine m_getr C hW ha0 flX11_93 (by decide) dX11_keep_17 (fun hk3 => ?_)
  refine lv_iconst C.1 C.2.1 dX11_keep_20 ic_0 ?_
  obtain ⟨hb4, hf⟩ := gd hf
  refine m_iald C hW hk3 hb4 dX11_keep_21 ?_
  cases hf
  exact m_iret C hW dX11_keep_22

def fX11_back (a0 : Nat) (S : MS) : Option (Int32 × MS) := (if gI (pI S a0 0 (0 : Int32)) a0 55 = (0 : Int32) then some ((-1 : Int32), pI S a0 0 (0 : Int32)) else (fX11_copies  a0 (0 : Int32) (2 : Int32) (pI S a0 0 (0 : Int32))).bind fun q2 => (if bnd (0 : Int32) (lnM (gR (pI q2 a0 56 (0 : Int32)) a0 43)) = true then some (gI (pI q2 a0 56 (0 : Int32)) (gR (pI q2 a0 56 (0 : Int32)) a0 43) (0 : Int32).toNatClampNeg, pI q2 a0 56 (0 : Int32)) else none))
set_option maxRecDepth 100000 in
theorem cX11_back_ok {l : Launch} {G : Gv} {L : List Nat} {S : MS} {a0 : Nat} {q : (Int32 × MS)} (ha0 : a0 < shM.1 ∧ shM.2.1 a0 = 11) (hf : fX11_back a0 S = some q) : Mt l yX11_back cX11_back 1 (some .int) (2) G shM L S [.ref (ad L a0)] (some (.int q.1)) q.2 := by
  refine m_enter (lv := [(0, .ref (ad L a0))]) (plainFor_of_name (by decide)) (Nat.le_of_ble_eq_true rfl) rfl ?_
  intro p e s m below meth c A ls C hW hl
  unfold fX11_back at hf
  refine lv_aload_n C.1 C.2.1 dX11_back_0 rfl (lv_at hl 0 rfl) ?_
  refine lv_iconst C.1 C.2.1 dX11_back_1 ic_0 ?_
  refine m_puti C hW ha0 fpX11_163 dX11_back_2 (fun H locs hW => ?_)
  refine lv_aload_n C.1 C.2.1 dX11_back_5 rfl (lv_at hl 0 rfl) ?_
  refine m_geti C hW ha0 flX11_331 dX11_back_6 ?_
  refine lv_if_ne (tgt := 14) C.1 C.2.1 dX11_back_9 rfl (fun c1 => ?_) (fun c1 => ?_)
  · have hf := (if_neg c1).symm.trans hf
    refine lv_aload_n C.1 C.2.1 dX11_back_14 rfl (lv_at hl 0 rfl) ?_
    refine lv_iconst C.1 C.2.1 dX11_back_15 ic_0 ?_
    refine lv_iconst C.1 C.2.1 dX11_back_16 ic_2 ?_
    obtain ⟨q2, h3, hf⟩ := bd hf
    refine m_callV (As := [.int (0 : Int32), .int (2 : Int32)]) (rest := []) C hW ha0 (cX11_copies_ok  ha0 h3) mlX11_488 (by decide) rfl hl.1 rfl (Nat.le_of_ble_eq_true rfl) (Nat.le_of_ble_eq_true rfl) (Nat.le_of_ble_eq_true rfl) dX11_back_17 (fun H locs hW => ?_)
    refine lv_aload_n C.1 C.2.1 dX11_back_20 rfl (lv_at hl 0 rfl) ?_
    refine lv_iconst C.1 C.2.1 dX11_back_21 ic_0 ?_
    refine m_puti C hW ha0 fpX11_335 dX11_back_22 (fun H locs hW => ?_)
    refine lv_aload_n C.1 C.2.1 dX11_back_25 rfl (lv_at hl 0 rfl) ?_
    refine m_getr C hW ha0 flX11_93 (by decide) dX11_back_26 (fun hk4 => ?_)
    refine lv_iconst C.1 C.2.1 dX11_back_29 ic_0 ?_
    obtain ⟨hb5, hf⟩ := gd hf
    refine m_iald C hW hk4 hb5 dX11_back_30 ?_
    cases hf
    exact m_iret C hW dX11_back_31
  · have hf := (if_pos c1).symm.trans hf
    refine lv_iconst C.1 C.2.1 dX11_back_12 ic_m1 ?_
    cases hf
    exact m_iret C hW dX11_back_13

def fX11_count (a0 : Nat) (a1 : Int32) (S : MS) : Option (Int32 × MS) := (if a1 = (0 : Int32) then (if bnd (6 : Int32) (lnM (gR (pI S a0 0 (0 : Int32)) a0 3)) = true then some (gI (pI S a0 0 (0 : Int32)) (gR (pI S a0 0 (0 : Int32)) a0 3) (6 : Int32).toNatClampNeg, pI S a0 0 (0 : Int32)) else none) else if a1 = (1 : Int32) then (if bnd (8 : Int32) (lnM (gR (pI S a0 0 (0 : Int32)) a0 3)) = true then some (gI (pI S a0 0 (0 : Int32)) (gR (pI S a0 0 (0 : Int32)) a0 3) (8 : Int32).toNatClampNeg, pI S a0 0 (0 : Int32)) else none) else if a1 = (2 : Int32) then (if bnd (9 : Int32) (lnM (gR (pI S a0 0 (0 : Int32)) a0 3)) = true then some (gI (pI S a0 0 (0 : Int32)) (gR (pI S a0 0 (0 : Int32)) a0 3) (9 : Int32).toNatClampNeg, pI S a0 0 (0 : Int32)) else none) else if a1 = (3 : Int32) then (if bnd (0 : Int32) (lnM (gR (pI S a0 0 (0 : Int32)) a0 3)) = true then some (gI (pI S a0 0 (0 : Int32)) (gR (pI S a0 0 (0 : Int32)) a0 3) (0 : Int32).toNatClampNeg, pI S a0 0 (0 : Int32)) else none) else if a1 = (4 : Int32) then (if bnd (1 : Int32) (lnM (gR (pI S a0 0 (0 : Int32)) a0 3)) = true then some (gI (pI S a0 0 (0 : Int32)) (gR (pI S a0 0 (0 : Int32)) a0 3) (1 : Int32).toNatClampNeg, pI S a0 0 (0 : Int32)) else none) else if a1 = (5 : Int32) then (if bnd (12 : Int32) (lnM (gR (pI S a0 0 (0 : Int32)) a0 3)) = true then some (gI (pI S a0 0 (0 : Int32)) (gR (pI S a0 0 (0 : Int32)) a0 3) (12 : Int32).toNatClampNeg, pI S a0 0 (0 : Int32)) else none) else if a1 = (6 : Int32) then (if bnd (0 : Int32) (lnM (gR (pI S a0 0 (0 : Int32)) a0 43)) = true then some (gI (pI S a0 0 (0 : Int32)) (gR (pI S a0 0 (0 : Int32)) a0 43) (0 : Int32).toNatClampNeg, pI S a0 0 (0 : Int32)) else none) else if a1 = (7 : Int32) then (if bnd (0 : Int32) (lnM (gR (pI S a0 0 (0 : Int32)) a0 51)) = true then (fX11_bitsOf  (gI (pI S a0 0 (0 : Int32)) (gR (pI S a0 0 (0 : Int32)) a0 51) (0 : Int32).toNatClampNeg) (pI S a0 0 (0 : Int32))).bind fun q25 => some (q25, pI S a0 0 (0 : Int32)) else none) else if a1 = (8 : Int32) then (fX11_worthOf  a0 (0 : Int32) (pI S a0 0 (0 : Int32))).bind fun q28 => some (q28, pI S a0 0 (0 : Int32)) else if a1 = (9 : Int32) then (if bnd (0 : Int32) (lnM (gR (pI S a0 0 (0 : Int32)) a0 45)) = true then some (gI (pI S a0 0 (0 : Int32)) (gR (pI S a0 0 (0 : Int32)) a0 45) (0 : Int32).toNatClampNeg, pI S a0 0 (0 : Int32)) else none) else if a1 = (10 : Int32) then (if bnd (0 : Int32) (lnM (gR (pI S a0 0 (0 : Int32)) a0 49)) = true then some (gI (pI S a0 0 (0 : Int32)) (gR (pI S a0 0 (0 : Int32)) a0 49) (0 : Int32).toNatClampNeg, pI S a0 0 (0 : Int32)) else none) else if a1 = (11 : Int32) then (if bnd (0 : Int32) (lnM (gR (pI S a0 0 (0 : Int32)) a0 50)) = true then (fX11_bitsOf  (gI (pI S a0 0 (0 : Int32)) (gR (pI S a0 0 (0 : Int32)) a0 50) (0 : Int32).toNatClampNeg) (pI S a0 0 (0 : Int32))).bind fun q39 => some (q39, pI S a0 0 (0 : Int32)) else none) else if a1 = (12 : Int32) then some (gI (pI S a0 0 (0 : Int32)) a0 66, pI S a0 0 (0 : Int32)) else if a1 = (13 : Int32) then (fX11_knownMany  a0 (pI S a0 0 (0 : Int32))).bind fun q43 => some (q43, pI S a0 0 (0 : Int32)) else if a1 = (14 : Int32) then some (gI (pI S a0 0 (0 : Int32)) a0 56, pI S a0 0 (0 : Int32)) else some ((-1 : Int32), pI S a0 0 (0 : Int32)))
set_option maxRecDepth 100000 in
theorem cX11_count_ok {l : Launch} {G : Gv} {L : List Nat} {S : MS} {a0 : Nat} {a1 : Int32} {q : (Int32 × MS)} (ha0 : a0 < shM.1 ∧ shM.2.1 a0 = 11) (hf : fX11_count a0 a1 S = some q) : Mt l yX11_count cX11_count 2 (some .int) (2) G shM L S [.ref (ad L a0), .int a1] (some (.int q.1)) q.2 := by
  refine m_enter (lv := [(0, .ref (ad L a0)), (1, .int a1)]) (plainFor_of_name (by decide)) (Nat.le_of_ble_eq_true rfl) rfl ?_
  intro p e s m below meth c A ls C hW hl
  unfold fX11_count at hf
  refine lv_aload_n C.1 C.2.1 dX11_count_0 rfl (lv_at hl 0 rfl) ?_
  refine lv_iconst C.1 C.2.1 dX11_count_1 ic_0 ?_
  refine m_puti C hW ha0 fpX11_163 dX11_count_2 (fun H locs hW => ?_)
  refine lv_iload_n C.1 C.2.1 dX11_count_5 rfl (lv_at hl 1 rfl) ?_
  by_cases c1 : a1 = (0 : Int32)
  · have hf := (if_pos c1).symm.trans hf
    refine lv_tableIn (tgt := 80) C.1 C.2.1 dX11_count_6 (by rw [c1]; decide) (by rw [c1]; decide) (by rw [c1]; rfl) rfl ?_
    refine lv_aload_n C.1 C.2.1 dX11_count_80 rfl (lv_at hl 0 rfl) ?_
    refine m_getr C hW ha0 flX11_13 (by decide) dX11_count_81 (fun hk2 => ?_)
    refine lv_bipush C.1 C.2.1 dX11_count_84 bp_6 ?_
    obtain ⟨hb3, hf⟩ := gd hf
    refine m_iald C hW hk2 hb3 dX11_count_86 ?_
    cases hf
    exact m_iret C hW dX11_count_87
  have hf := (if_neg c1).symm.trans hf
  by_cases c4 : a1 = (1 : Int32)
  · have hf := (if_pos c4).symm.trans hf
    refine lv_tableIn (tgt := 88) C.1 C.2.1 dX11_count_6 (by rw [c4]; decide) (by rw [c4]; decide) (by rw [c4]; rfl) rfl ?_
    refine lv_aload_n C.1 C.2.1 dX11_count_88 rfl (lv_at hl 0 rfl) ?_
    refine m_getr C hW ha0 flX11_13 (by decide) dX11_count_89 (fun hk5 => ?_)
    refine lv_bipush C.1 C.2.1 dX11_count_92 bp_8 ?_
    obtain ⟨hb6, hf⟩ := gd hf
    refine m_iald C hW hk5 hb6 dX11_count_94 ?_
    cases hf
    exact m_iret C hW dX11_count_95
  have hf := (if_neg c4).symm.trans hf
  by_cases c7 : a1 = (2 : Int32)
  · have hf := (if_pos c7).symm.trans hf
    refine lv_tableIn (tgt := 96) C.1 C.2.1 dX11_count_6 (by rw [c7]; decide) (by rw [c7]; decide) (by rw [c7]; rfl) rfl ?_
    refine lv_aload_n C.1 C.2.1 dX11_count_96 rfl (lv_at hl 0 rfl) ?_
    refine m_getr C hW ha0 flX11_13 (by decide) dX11_count_97 (fun hk8 => ?_)
    refine lv_bipush C.1 C.2.1 dX11_count_100 bp_9 ?_
    obtain ⟨hb9, hf⟩ := gd hf
    refine m_iald C hW hk8 hb9 dX11_count_102 ?_
    cases hf
    exact m_iret C hW dX11_count_103
  have hf := (if_neg c7).symm.trans hf
  by_cases c10 : a1 = (3 : Int32)
  · have hf := (if_pos c10).symm.trans hf
    refine lv_tableIn (tgt := 104) C.1 C.2.1 dX11_count_6 (by rw [c10]; decide) (by rw [c10]; decide) (by rw [c10]; rfl) rfl ?_
    refine lv_aload_n C.1 C.2.1 dX11_count_104 rfl (lv_at hl 0 rfl) ?_
    refine m_getr C hW ha0 flX11_13 (by decide) dX11_count_105 (fun hk11 => ?_)
    refine lv_iconst C.1 C.2.1 dX11_count_108 ic_0 ?_
    obtain ⟨hb12, hf⟩ := gd hf
    refine m_iald C hW hk11 hb12 dX11_count_109 ?_
    cases hf
    exact m_iret C hW dX11_count_110
  have hf := (if_neg c10).symm.trans hf
  by_cases c13 : a1 = (4 : Int32)
  · have hf := (if_pos c13).symm.trans hf
    refine lv_tableIn (tgt := 111) C.1 C.2.1 dX11_count_6 (by rw [c13]; decide) (by rw [c13]; decide) (by rw [c13]; rfl) rfl ?_
    refine lv_aload_n C.1 C.2.1 dX11_count_111 rfl (lv_at hl 0 rfl) ?_
    refine m_getr C hW ha0 flX11_13 (by decide) dX11_count_112 (fun hk14 => ?_)
    refine lv_iconst C.1 C.2.1 dX11_count_115 ic_1 ?_
    obtain ⟨hb15, hf⟩ := gd hf
    refine m_iald C hW hk14 hb15 dX11_count_116 ?_
    cases hf
    exact m_iret C hW dX11_count_117
  have hf := (if_neg c13).symm.trans hf
  by_cases c16 : a1 = (5 : Int32)
  · have hf := (if_pos c16).symm.trans hf
    refine lv_tableIn (tgt := 118) C.1 C.2.1 dX11_count_6 (by rw [c16]; decide) (by rw [c16]; decide) (by rw [c16]; rfl) rfl ?_
    refine lv_aload_n C.1 C.2.1 dX11_count_118 rfl (lv_at hl 0 rfl) ?_
    refine m_getr C hW ha0 flX11_13 (by decide) dX11_count_119 (fun hk17 => ?_)
    refine lv_bipush C.1 C.2.1 dX11_count_122 bp_12 ?_
    obtain ⟨hb18, hf⟩ := gd hf
    refine m_iald C hW hk17 hb18 dX11_count_124 ?_
    cases hf
    exact m_iret C hW dX11_count_125
  have hf := (if_neg c16).symm.trans hf
  by_cases c19 : a1 = (6 : Int32)
  · have hf := (if_pos c19).symm.trans hf
    refine lv_tableIn (tgt := 126) C.1 C.2.1 dX11_count_6 (by rw [c19]; decide) (by rw [c19]; decide) (by rw [c19]; rfl) rfl ?_
    refine lv_aload_n C.1 C.2.1 dX11_count_126 rfl (lv_at hl 0 rfl) ?_
    refine m_getr C hW ha0 flX11_93 (by decide) dX11_count_127 (fun hk20 => ?_)
    refine lv_iconst C.1 C.2.1 dX11_count_130 ic_0 ?_
    obtain ⟨hb21, hf⟩ := gd hf
    refine m_iald C hW hk20 hb21 dX11_count_131 ?_
    cases hf
    exact m_iret C hW dX11_count_132
  have hf := (if_neg c19).symm.trans hf
  by_cases c22 : a1 = (7 : Int32)
  · have hf := (if_pos c22).symm.trans hf
    refine lv_tableIn (tgt := 133) C.1 C.2.1 dX11_count_6 (by rw [c22]; decide) (by rw [c22]; decide) (by rw [c22]; rfl) rfl ?_
    refine lv_aload_n C.1 C.2.1 dX11_count_133 rfl (lv_at hl 0 rfl) ?_
    refine m_getr C hW ha0 flX11_117 (by decide) dX11_count_134 (fun hk23 => ?_)
    refine lv_iconst C.1 C.2.1 dX11_count_137 ic_0 ?_
    obtain ⟨hb24, hf⟩ := gd hf
    refine m_iald C hW hk23 hb24 dX11_count_138 ?_
    obtain ⟨q25, h26, hf⟩ := bd hf
    refine m_callS (As := [.int (gI (pI S a0 0 (0 : Int32)) (gR (pI S a0 0 (0 : Int32)) a0 51) (0 : Int32).toNatClampNeg)]) (rest := []) C hW (cX11_bitsOf_ok   h26) mlX11_361 rfl hl.1 rfl (Nat.le_of_ble_eq_true rfl) (Nat.le_of_ble_eq_true rfl) (Nat.le_of_ble_eq_true rfl) dX11_count_139 (fun H locs hW => ?_)
    cases hf
    exact m_iret C hW dX11_count_142
  have hf := (if_neg c22).symm.trans hf
  by_cases c27 : a1 = (8 : Int32)
  · have hf := (if_pos c27).symm.trans hf
    refine lv_tableIn (tgt := 143) C.1 C.2.1 dX11_count_6 (by rw [c27]; decide) (by rw [c27]; decide) (by rw [c27]; rfl) rfl ?_
    refine lv_aload_n C.1 C.2.1 dX11_count_143 rfl (lv_at hl 0 rfl) ?_
    refine lv_iconst C.1 C.2.1 dX11_count_144 ic_0 ?_
    obtain ⟨q28, h29, hf⟩ := bd hf
    refine m_callV (As := [.int (0 : Int32)]) (rest := []) C hW ha0 (cX11_worthOf_ok  ha0 h29) mlX11_497 (by decide) rfl hl.1 rfl (Nat.le_of_ble_eq_true rfl) (Nat.le_of_ble_eq_true rfl) (Nat.le_of_ble_eq_true rfl) dX11_count_145 (fun H locs hW => ?_)
    cases hf
    exact m_iret C hW dX11_count_148
  have hf := (if_neg c27).symm.trans hf
  by_cases c30 : a1 = (9 : Int32)
  · have hf := (if_pos c30).symm.trans hf
    refine lv_tableIn (tgt := 149) C.1 C.2.1 dX11_count_6 (by rw [c30]; decide) (by rw [c30]; decide) (by rw [c30]; rfl) rfl ?_
    refine lv_aload_n C.1 C.2.1 dX11_count_149 rfl (lv_at hl 0 rfl) ?_
    refine m_getr C hW ha0 flX11_99 (by decide) dX11_count_150 (fun hk31 => ?_)
    refine lv_iconst C.1 C.2.1 dX11_count_153 ic_0 ?_
    obtain ⟨hb32, hf⟩ := gd hf
    refine m_iald C hW hk31 hb32 dX11_count_154 ?_
    cases hf
    exact m_iret C hW dX11_count_155
  have hf := (if_neg c30).symm.trans hf
  by_cases c33 : a1 = (10 : Int32)
  · have hf := (if_pos c33).symm.trans hf
    refine lv_tableIn (tgt := 156) C.1 C.2.1 dX11_count_6 (by rw [c33]; decide) (by rw [c33]; decide) (by rw [c33]; rfl) rfl ?_
    refine lv_aload_n C.1 C.2.1 dX11_count_156 rfl (lv_at hl 0 rfl) ?_
    refine m_getr C hW ha0 flX11_111 (by decide) dX11_count_157 (fun hk34 => ?_)
    refine lv_iconst C.1 C.2.1 dX11_count_160 ic_0 ?_
    obtain ⟨hb35, hf⟩ := gd hf
    refine m_iald C hW hk34 hb35 dX11_count_161 ?_
    cases hf
    exact m_iret C hW dX11_count_162
  have hf := (if_neg c33).symm.trans hf
  by_cases c36 : a1 = (11 : Int32)
  · have hf := (if_pos c36).symm.trans hf
    refine lv_tableIn (tgt := 163) C.1 C.2.1 dX11_count_6 (by rw [c36]; decide) (by rw [c36]; decide) (by rw [c36]; rfl) rfl ?_
    refine lv_aload_n C.1 C.2.1 dX11_count_163 rfl (lv_at hl 0 rfl) ?_
    refine m_getr C hW ha0 flX11_114 (by decide) dX11_count_164 (fun hk37 => ?_)
    refine lv_iconst C.1 C.2.1 dX11_count_167 ic_0 ?_
    obtain ⟨hb38, hf⟩ := gd hf
    refine m_iald C hW hk37 hb38 dX11_count_168 ?_
    obtain ⟨q39, h40, hf⟩ := bd hf
    refine m_callS (As := [.int (gI (pI S a0 0 (0 : Int32)) (gR (pI S a0 0 (0 : Int32)) a0 50) (0 : Int32).toNatClampNeg)]) (rest := []) C hW (cX11_bitsOf_ok   h40) mlX11_361 rfl hl.1 rfl (Nat.le_of_ble_eq_true rfl) (Nat.le_of_ble_eq_true rfl) (Nat.le_of_ble_eq_true rfl) dX11_count_169 (fun H locs hW => ?_)
    cases hf
    exact m_iret C hW dX11_count_172
  have hf := (if_neg c36).symm.trans hf
  by_cases c41 : a1 = (12 : Int32)
  · have hf := (if_pos c41).symm.trans hf
    refine lv_tableIn (tgt := 173) C.1 C.2.1 dX11_count_6 (by rw [c41]; decide) (by rw [c41]; decide) (by rw [c41]; rfl) rfl ?_
    refine lv_aload_n C.1 C.2.1 dX11_count_173 rfl (lv_at hl 0 rfl) ?_
    refine m_geti C hW ha0 flX11_328 dX11_count_174 ?_
    cases hf
    exact m_iret C hW dX11_count_177
  have hf := (if_neg c41).symm.trans hf
  by_cases c42 : a1 = (13 : Int32)
  · have hf := (if_pos c42).symm.trans hf
    refine lv_tableIn (tgt := 178) C.1 C.2.1 dX11_count_6 (by rw [c42]; decide) (by rw [c42]; decide) (by rw [c42]; rfl) rfl ?_
    refine lv_aload_n C.1 C.2.1 dX11_count_178 rfl (lv_at hl 0 rfl) ?_
    obtain ⟨q43, h44, hf⟩ := bd hf
    refine m_callV (As := []) (rest := []) C hW ha0 (cX11_knownMany_ok  ha0 h44) mlX11_529 (by decide) rfl hl.1 rfl (Nat.le_of_ble_eq_true rfl) (Nat.le_of_ble_eq_true rfl) (Nat.le_of_ble_eq_true rfl) dX11_count_179 (fun H locs hW => ?_)
    cases hf
    exact m_iret C hW dX11_count_182
  have hf := (if_neg c42).symm.trans hf
  by_cases c45 : a1 = (14 : Int32)
  · have hf := (if_pos c45).symm.trans hf
    refine lv_tableIn (tgt := 183) C.1 C.2.1 dX11_count_6 (by rw [c45]; decide) (by rw [c45]; decide) (by rw [c45]; rfl) rfl ?_
    refine lv_aload_n C.1 C.2.1 dX11_count_183 rfl (lv_at hl 0 rfl) ?_
    refine m_geti C hW ha0 flX11_335 dX11_count_184 ?_
    cases hf
    exact m_iret C hW dX11_count_187
  have hf := (if_neg c45).symm.trans hf
  by_cases ho46 : a1.toInt < 0 ∨ 14 < a1.toInt
  · refine lv_tableOut (tgt := 188) C.1 C.2.1 dX11_count_6 ho46 rfl ?_
    refine lv_iconst C.1 C.2.1 dX11_count_188 ic_m1 ?_
    cases hf
    exact m_iret C hW dX11_count_189
  · exfalso
    have := tn_e c1 (0) (by decide)
    have := tn_e c4 (1) (by decide)
    have := tn_e c7 (2) (by decide)
    have := tn_e c10 (3) (by decide)
    have := tn_e c13 (4) (by decide)
    have := tn_e c16 (5) (by decide)
    have := tn_e c19 (6) (by decide)
    have := tn_e c22 (7) (by decide)
    have := tn_e c27 (8) (by decide)
    have := tn_e c30 (9) (by decide)
    have := tn_e c33 (10) (by decide)
    have := tn_e c36 (11) (by decide)
    have := tn_e c41 (12) (by decide)
    have := tn_e c42 (13) (by decide)
    have := tn_e c45 (14) (by decide)
    omega

