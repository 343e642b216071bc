def fX11_within (a0 : Nat) (a1 : Int32) (a2 : Int32) (a3 : Int32) (S : MS) : Option (Int32 × MS) := (fX11_hasLaw  a0 a1 S).bind fun q1 => (if q1 = (0 : Int32) then some (a3, S) else (fX11_goes  a0 a1 S).bind fun q4 => (if q4.1 = (0 : Int32) then some (a3, q4.2) else (if bnd (0 : Int32) (lnM (gR q4.2 a0 41)) = true then some ((if (if (gJ q4.2 (gR q4.2 a0 41) (0 : Int32).toNatClampNeg) < a2.toInt64 then (gJ q4.2 (gR q4.2 a0 41) (0 : Int32).toNatClampNeg) else a2.toInt64) < (0 : Int64) then (0 : Int64) else (if (gJ q4.2 (gR q4.2 a0 41) (0 : Int32).toNatClampNeg) < a2.toInt64 then (gJ q4.2 (gR q4.2 a0 41) (0 : Int32).toNatClampNeg) else a2.toInt64)).toInt32, q4.2) else none)))
set_option maxRecDepth 100000 in
theorem cX11_within_ok {l : Launch} {G : Gv} {L : List Nat} {S : MS} {a0 : Nat} {a1 : Int32} {a2 : Int32} {a3 : Int32} {q : (Int32 × MS)} (ha0 : a0 < shM.1 ∧ shM.2.1 a0 = 11) (hf : fX11_within a0 a1 a2 a3 S = some q) : Mt l yX11_within cX11_within 4 (some .int) (4) G shM L S [.ref (ad L a0), .int a1, .int a2, .int a3] (some (.int q.1)) q.2 := by
  refine m_enter (lv := [(0, .ref (ad L a0)), (1, .int a1), (2, .int a2), (3, .int a3)]) (plainFor_of_name (by decide)) (Nat.le_of_ble_eq_true rfl) rfl ?_
  intro p e s m below meth c A ls C hW hl
  unfold fX11_within at hf
  refine lv_aload_n C.1 C.2.1 dX11_within_0 rfl (lv_at hl 0 rfl) ?_
  refine lv_iload_n C.1 C.2.1 dX11_within_1 rfl (lv_at hl 1 rfl) ?_
  obtain ⟨q1, h2, hf⟩ := bd hf
  refine m_callV (As := [.int a1]) (rest := []) C hW ha0 (cX11_hasLaw_ok  ha0 h2) mlX11_364 (by decide) rfl hl.1 rfl (Nat.le_of_ble_eq_true rfl) (Nat.le_of_ble_eq_true rfl) (Nat.le_of_ble_eq_true rfl) dX11_within_2 (fun H locs hW => ?_)
  refine lv_if_eq (tgt := 16) C.1 C.2.1 dX11_within_5 rfl (fun c3 => ?_) (fun c3 => ?_)
  · have hf := (if_pos c3).symm.trans hf
    refine lv_iload_n C.1 C.2.1 dX11_within_16 rfl (lv_at hl 3 rfl) ?_
    cases hf
    exact m_iret C hW dX11_within_17
  · have hf := (if_neg c3).symm.trans hf
    refine lv_aload_n C.1 C.2.1 dX11_within_8 rfl (lv_at hl 0 rfl) ?_
    refine lv_iload_n C.1 C.2.1 dX11_within_9 rfl (lv_at hl 1 rfl) ?_
    obtain ⟨q4, h5, hf⟩ := bd hf
    refine m_callV (As := [.int a1]) (rest := []) C hW ha0 (cX11_goes_ok  ha0 h5) mlX11_367 (by decide) rfl hl.1 rfl (Nat.le_of_ble_eq_true rfl) (Nat.le_of_ble_eq_true rfl) (Nat.le_of_ble_eq_true rfl) dX11_within_10 (fun H locs hW => ?_)
    refine lv_if_ne (tgt := 18) C.1 C.2.1 dX11_within_13 rfl (fun c6 => ?_) (fun c6 => ?_)
    · have hf := (if_neg c6).symm.trans hf
      refine lv_lconst C.1 C.2.1 dX11_within_18 lc_0 ?_
      refine lv_iload_n C.1 C.2.1 dX11_within_19 rfl (lv_at hl 2 rfl) ?_
      refine lv_i2l C.1 C.2.1 dX11_within_20 rfl ?_
      refine lv_aload_n C.1 C.2.1 dX11_within_21 rfl (lv_at hl 0 rfl) ?_
      refine m_getr C hW ha0 flX11_90 (by decide) dX11_within_22 (fun hk7 => ?_)
      refine lv_iconst C.1 C.2.1 dX11_within_25 ic_0 ?_
      obtain ⟨hb8, hf⟩ := gd hf
      refine m_lald C hW hk7 hb8 dX11_within_26 ?_
      refine va_mmin_long C.1 C.2.1 (C.2.2.1.trans hl.1.symm) C.2.2.2.1 (C.2.2.2.2.1 _ kw_1810) (C.2.2.2.2.1 _ kw_943) (C.2.2.2.2.1 _ kw_135) (C.2.2.2.2.1 _ kw_944) (Nat.le_of_ble_eq_true rfl) (Nat.le_of_ble_eq_true rfl) (Nat.le_refl 0) (Nat.le_refl 0) dX11_within_27 ?_
      refine va_mmax_long C.1 C.2.1 (C.2.2.1.trans hl.1.symm) C.2.2.2.1 (C.2.2.2.2.1 _ kw_1811) (C.2.2.2.2.1 _ kw_946) (C.2.2.2.2.1 _ kw_135) (C.2.2.2.2.1 _ kw_947) (Nat.le_of_ble_eq_true rfl) (Nat.le_of_ble_eq_true rfl) (Nat.le_refl 0) (Nat.le_refl 0) dX11_within_30 ?_
      refine lv_l2i C.1 C.2.1 dX11_within_33 rfl ?_
      cases hf
      exact m_iret C hW dX11_within_34
    · have hf := (if_pos c6).symm.trans hf
      refine lv_iload_n C.1 C.2.1 dX11_within_16 rfl (lv_at hl 3 rfl) ?_
      cases hf
      exact m_iret C hW dX11_within_17

def fX11_law_112  (x0 : Nat) (x1 : Int32) (S : MS) : Option (Int64 × MS) := (fX11_goes  x0 x1 S).bind fun q1 => (if q1.1 = (0 : Int32) then some ((-9223372036854775808 : Int64), q1.2) else (if bnd (0 : Int32) (lnM (gR q1.2 x0 41)) = true then some (gJ q1.2 (gR q1.2 x0 41) (0 : Int32).toNatClampNeg, q1.2) else none))
def fX11_law_106  (x0 : Nat) (x1 : Int32) (x3 : Int32) (y0 : Nat) (y1 : Int32) (y2 : Int32) (S : MS) : Option (Int64 × MS) := (fX11_calls  y0 y1 y2 (0 : Int32) (0 : Int32) x3 S).bind fun q6 => fX11_law_112  x0 x1 q6
def fX11_law_39  (x0 : Nat) (x1 : Int32) (x2 : Int32) (S : MS) : Option (Int64 × MS) := (if bnd (0 : Int32) (lnM (gR S x0 43)) = true then (if x1 = (1 : Int32) then (if bnd x2 (lnM (gR S x0 52)) = true then (if bnd x2 (lnM (gR S x0 53)) = true then (fX11_calls  x0 (0 : Int32) (0 : Int32) (gI S (gR S x0 52) x2.toNatClampNeg) (if ((gI S (gR S x0 53) x2.toNatClampNeg) + (1 : Int32)) < (999 : Int32) then ((gI S (gR S x0 53) x2.toNatClampNeg) + (1 : Int32)) else (999 : Int32)) ((gI S (gR S x0 43) (0 : Int32).toNatClampNeg) - ((gI S (gR S x0 43) (0 : Int32).toNatClampNeg) / (24 : Int32)) * (24 : Int32)) S).bind fun q20 => fX11_law_112  x0 x1 q20 else none) else none) else (if x1 = (0 : Int32) then (fX11_isCloudy  x0 (0 : Int32) (0 : Int32) S).bind fun q12 => (fX11_lightFar  x0 (0 : Int32) ((gI S (gR S x0 43) (0 : Int32).toNatClampNeg) - ((gI S (gR S x0 43) (0 : Int32).toNatClampNeg) / (24 : Int32)) * (24 : Int32)) q12.1 q12.2).bind fun q14 => fX11_law_106  x0 x1 ((gI S (gR S x0 43) (0 : Int32).toNatClampNeg) - ((gI S (gR S x0 43) (0 : Int32).toNatClampNeg) / (24 : Int32)) * (24 : Int32)) x0 (0 : Int32) q14.1 q14.2 else fX11_law_106  x0 x1 ((gI S (gR S x0 43) (0 : Int32).toNatClampNeg) - ((gI S (gR S x0 43) (0 : Int32).toNatClampNeg) / (24 : Int32)) * (24 : Int32)) x0 (0 : Int32) (0 : Int32) S)) else none)
def fX11_law (a0 : Nat) (a1 : Int32) (a2 : Int32) (S : MS) : Option (Int64 × MS) := (if a1 < (0 : Int32) then some ((-9223372036854775808 : Int64), pI S a0 0 (0 : Int32)) else (if (2 : Int32) < a1 then some ((-9223372036854775808 : Int64), pI S a0 0 (0 : Int32)) else (fX11_hasLaw  a0 a1 (pI S a0 0 (0 : Int32))).bind fun q24 => (if q24 = (0 : Int32) then some ((-9223372036854775808 : Int64), pI S a0 0 (0 : Int32)) else (if a1 = (1 : Int32) then (fX11_isMan  a0 a2 (pI S a0 0 (0 : Int32))).bind fun q28 => (if q28 = (0 : Int32) then some ((-9223372036854775808 : Int64), pI S a0 0 (0 : Int32)) else fX11_law_39  a0 a1 a2 (pI S a0 0 (0 : Int32))) else fX11_law_39  a0 a1 a2 (pI S a0 0 (0 : Int32))))))
set_option maxRecDepth 100000 in
theorem kX11_law_112 {p : Program} {l : Launch} {e : Env} {s : State} {m : MethodId} {av : Array Value} {below : List Frame} {meth : Method} {c : Code} {A : Nat → Prop} {G : Gv} {L : List Nat} {q : (Int64 × MS)}  (C : mC p s m av meth c cX11_law RX11 4 (some .long)) : ∀ (x0 : Nat) (x1 : Int32) (S : MS) (H : Heap) (locs : List Loc) (ls : Array Slot), (x0 < shM.1 ∧ shM.2.1 x0 = 11) → mW G shM L S A s H locs → lv_has ls 4 [(0, .ref (ad L x0)), (1, .int x1)] → fX11_law_112  x0 x1 S = some q → W p l e (rmd (4)) s m av below meth c H locs 0 0 (MQ below (mQ G shM L q.2 (some (.long q.1)) A) av s 0 0 A) (F0 m 112 ls []) := by
  intro x0 x1 S H locs ls hx0 hW hl hf
  unfold fX11_law_112 at hf
  refine lv_aload_n C.1 C.2.1 dX11_law_112 rfl (lv_at hl 0 rfl) ?_
  refine lv_iload_n C.1 C.2.1 dX11_law_113 rfl (lv_at hl 1 rfl) ?_
  obtain ⟨q1, h2, hf⟩ := bd hf
  refine m_callV (As := [.int x1]) (rest := []) C hW hx0 (cX11_goes_ok  hx0 h2) mlX11_367 (by decide) rfl hl.1 rfl (Nat.le_of_ble_eq_true rfl) (Nat.le_of_ble_eq_true rfl) (Nat.le_of_ble_eq_true rfl) dX11_law_114 (fun H locs hW => ?_)
  refine lv_if_eq (tgt := 129) C.1 C.2.1 dX11_law_117 rfl (fun c3 => ?_) (fun c3 => ?_)
  · have hf := (if_pos c3).symm.trans hf
    refine lv_ldc2 C.1 C.2.1 C.2.2.2.1 (C.2.2.2.2.1 _ kw_1862) dX11_law_129 ?_
    cases hf
    exact m_lret C hW dX11_law_132
  · have hf := (if_neg c3).symm.trans hf
    refine lv_aload_n C.1 C.2.1 dX11_law_120 rfl (lv_at hl 0 rfl) ?_
    refine m_getr C hW hx0 flX11_90 (by decide) dX11_law_121 (fun hk4 => ?_)
    refine lv_iconst C.1 C.2.1 dX11_law_124 ic_0 ?_
    obtain ⟨hb5, hf⟩ := gd hf
    refine m_lald C hW hk4 hb5 dX11_law_125 ?_
    refine lv_goto (tgt := 132) C.1 C.2.1 dX11_law_126 rfl ?_
    cases hf
    exact m_lret C hW dX11_law_132

set_option maxRecDepth 100000 in
theorem kX11_law_106 {p : Program} {l : Launch} {e : Env} {s : State} {m : MethodId} {av : Array Value} {below : List Frame} {meth : Method} {c : Code} {A : Nat → Prop} {G : Gv} {L : List Nat} {q : (Int64 × MS)}  (C : mC p s m av meth c cX11_law RX11 4 (some .long)) : ∀ (x0 : Nat) (x1 : Int32) (x3 : Int32) (y0 : Nat) (y1 : Int32) (y2 : Int32) (S : MS) (H : Heap) (locs : List Loc) (ls : Array Slot), (x0 < shM.1 ∧ shM.2.1 x0 = 11) → (y0 < shM.1 ∧ shM.2.1 y0 = 11) → mW G shM L S A s H locs → lv_has ls 4 [(0, .ref (ad L x0)), (1, .int x1), (3, .int x3)] → fX11_law_106  x0 x1 x3 y0 y1 y2 S = some q → W p l e (rmd (4)) s m av below meth c H locs 0 0 (MQ below (mQ G shM L q.2 (some (.long q.1)) A) av s 0 0 A) (F0 m 106 ls [.int y2, .int y1, .ref (ad L y0)]) := by
  intro x0 x1 x3 y0 y1 y2 S H locs ls hx0 hy0 hW hl hf
  unfold fX11_law_106 at hf
  refine lv_iconst C.1 C.2.1 dX11_law_106 ic_0 ?_
  refine lv_iconst C.1 C.2.1 dX11_law_107 ic_0 ?_
  refine lv_iload_n C.1 C.2.1 dX11_law_108 rfl (lv_at hl 2 rfl) ?_
  obtain ⟨q6, h7, hf⟩ := bd hf
  refine m_callV (As := [.int y1, .int y2, .int (0 : Int32), .int (0 : Int32), .int x3]) (rest := []) C hW hy0 (cX11_calls_ok  hy0 h7) mlX11_379 (by decide) rfl hl.1 rfl (Nat.le_of_ble_eq_true rfl) (Nat.le_of_ble_eq_true rfl) (Nat.le_of_ble_eq_true rfl) dX11_law_109 (fun H locs hW => ?_)
  exact kX11_law_112  C x0 x1 _ _ _ _ hx0 hW (lv_sub hl [0, 1] rfl) hf

set_option maxRecDepth 100000 in
theorem kX11_law_39 {p : Program} {l : Launch} {e : Env} {s : State} {m : MethodId} {av : Array Value} {below : List Frame} {meth : Method} {c : Code} {A : Nat → Prop} {G : Gv} {L : List Nat} {q : (Int64 × MS)}  (C : mC p s m av meth c cX11_law RX11 4 (some .long)) : ∀ (x0 : Nat) (x1 : Int32) (x2 : Int32) (S : MS) (H : Heap) (locs : List Loc) (ls : Array Slot), (x0 < shM.1 ∧ shM.2.1 x0 = 11) → mW G shM L S A s H locs → lv_has ls 4 [(0, .ref (ad L x0)), (1, .int x1), (2, .int x2)] → fX11_law_39  x0 x1 x2 S = some q → W p l e (rmd (4)) s m av below meth c H locs 0 0 (MQ below (mQ G shM L q.2 (some (.long q.1)) A) av s 0 0 A) (F0 m 39 ls []) := by
  intro x0 x1 x2 S H locs ls hx0 hW hl hf
  unfold fX11_law_39 at hf
  refine lv_aload_n C.1 C.2.1 dX11_law_39 rfl (lv_at hl 0 rfl) ?_
  refine m_getr C hW hx0 flX11_93 (by decide) dX11_law_40 (fun hk8 => ?_)
  refine lv_iconst C.1 C.2.1 dX11_law_43 ic_0 ?_
  obtain ⟨hb9, hf⟩ := gd hf
  refine m_iald C hW hk8 hb9 dX11_law_44 ?_
  refine lv_bipush C.1 C.2.1 dX11_law_45 bp_24 ?_
  refine lv_irem C.1 C.2.1 dX11_law_47 (by decide) ?_
  refine lv_istore_n (lv' := [(3, .int ((gI S (gR S x0 43) (0 : Int32).toNatClampNeg) - ((gI S (gR S x0 43) (0 : Int32).toNatClampNeg) / (24 : Int32)) * (24 : Int32))), (0, .ref (ad L x0)), (1, .int x1), (2, .int x2)]) C.1 C.2.1 dX11_law_48 rfl hl (by decide) rfl (fun ls hl => ?_)
  refine lv_iload_n C.1 C.2.1 dX11_law_49 rfl (lv_at hl 2 rfl) ?_
  refine lv_iconst C.1 C.2.1 dX11_law_50 ic_1 ?_
  refine lv_icmp_ne (tgt := 84) C.1 C.2.1 dX11_law_51 rfl (fun c10 => ?_) (fun c10 => ?_)
  · have hf := (if_neg c10).symm.trans hf
    refine lv_aload_n C.1 C.2.1 dX11_law_84 rfl (lv_at hl 1 rfl) ?_
    refine lv_iconst C.1 C.2.1 dX11_law_85 ic_0 ?_
    refine lv_iload_n C.1 C.2.1 dX11_law_86 rfl (lv_at hl 2 rfl) ?_
    refine lv_if_ne (tgt := 105) C.1 C.2.1 dX11_law_87 rfl (fun c11 => ?_) (fun c11 => ?_)
    · have hf := (if_neg c11).symm.trans hf
      refine lv_iconst C.1 C.2.1 dX11_law_105 ic_0 ?_
      exact kX11_law_106  C x0 x1 ((gI S (gR S x0 43) (0 : Int32).toNatClampNeg) - ((gI S (gR S x0 43) (0 : Int32).toNatClampNeg) / (24 : Int32)) * (24 : Int32)) x0 (0 : Int32) (0 : Int32) _ _ _ _ hx0 hx0 hW (lv_sub hl [1, 2, 0] rfl) hf
    · have hf := (if_pos c11).symm.trans hf
      refine lv_aload_n C.1 C.2.1 dX11_law_90 rfl (lv_at hl 1 rfl) ?_
      refine lv_iconst C.1 C.2.1 dX11_law_91 ic_0 ?_
      refine lv_iload_n C.1 C.2.1 dX11_law_92 rfl (lv_at hl 0 rfl) ?_
      refine lv_aload_n C.1 C.2.1 dX11_law_93 rfl (lv_at hl 1 rfl) ?_
      refine lv_iconst C.1 C.2.1 dX11_law_94 ic_0 ?_
      refine lv_iconst C.1 C.2.1 dX11_law_95 ic_0 ?_
      obtain ⟨q12, h13, hf⟩ := bd hf
      refine m_callV (As := [.int (0 : Int32), .int (0 : Int32)]) (rest := [.int ((gI S (gR S x0 43) (0 : Int32).toNatClampNeg) - ((gI S (gR S x0 43) (0 : Int32).toNatClampNeg) / (24 : Int32)) * (24 : Int32)), .int (0 : Int32), .ref (ad L x0), .int (0 : Int32), .ref (ad L x0)]) C hW hx0 (cX11_isCloudy_ok  hx0 h13) mlX11_448 (by decide) rfl hl.1 rfl (Nat.le_of_ble_eq_true rfl) (Nat.le_of_ble_eq_true rfl) (Nat.le_of_ble_eq_true rfl) dX11_law_96 (fun H locs hW => ?_)
      obtain ⟨q14, h15, hf⟩ := bd hf
      refine m_callV (As := [.int (0 : Int32), .int ((gI S (gR S x0 43) (0 : Int32).toNatClampNeg) - ((gI S (gR S x0 43) (0 : Int32).toNatClampNeg) / (24 : Int32)) * (24 : Int32)), .int q12.1]) (rest := [.int (0 : Int32), .ref (ad L x0)]) C hW hx0 (cX11_lightFar_ok  hx0 h15) mlX11_418 (by decide) rfl hl.1 rfl (Nat.le_of_ble_eq_true rfl) (Nat.le_of_ble_eq_true rfl) (Nat.le_of_ble_eq_true rfl) dX11_law_99 (fun H locs hW => ?_)
      refine lv_goto (tgt := 106) C.1 C.2.1 dX11_law_102 rfl ?_
      exact kX11_law_106  C x0 x1 ((gI S (gR S x0 43) (0 : Int32).toNatClampNeg) - ((gI S (gR S x0 43) (0 : Int32).toNatClampNeg) / (24 : Int32)) * (24 : Int32)) x0 (0 : Int32) q14.1 _ _ _ _ hx0 hx0 hW (lv_sub hl [1, 2, 0] rfl) hf
  · have hf := (if_pos c10).symm.trans hf
    refine lv_aload_n C.1 C.2.1 dX11_law_54 rfl (lv_at hl 1 rfl) ?_
    refine lv_iconst C.1 C.2.1 dX11_law_55 ic_0 ?_
    refine lv_iconst C.1 C.2.1 dX11_law_56 ic_0 ?_
    refine lv_aload_n C.1 C.2.1 dX11_law_57 rfl (lv_at hl 1 rfl) ?_
    refine m_getr C hW hx0 flX11_120 (by decide) dX11_law_58 (fun hk16 => ?_)
    refine lv_iload_n C.1 C.2.1 dX11_law_61 rfl (lv_at hl 3 rfl) ?_
    obtain ⟨hb17, hf⟩ := gd hf
    refine m_iald C hW hk16 hb17 dX11_law_62 ?_
    refine lv_sipush C.1 C.2.1 dX11_law_63 sp_999 ?_
    refine lv_aload_n C.1 C.2.1 dX11_law_66 rfl (lv_at hl 1 rfl) ?_
    refine m_getr C hW hx0 flX11_123 (by decide) dX11_law_67 (fun hk18 => ?_)
    refine lv_iload_n C.1 C.2.1 dX11_law_70 rfl (lv_at hl 3 rfl) ?_
    obtain ⟨hb19, hf⟩ := gd hf
    refine m_iald C hW hk18 hb19 dX11_law_71 ?_
    refine lv_iconst C.1 C.2.1 dX11_law_72 ic_1 ?_
    refine lv_iadd C.1 C.2.1 dX11_law_73 ?_
    refine va_mmin C.1 C.2.1 (C.2.2.1.trans hl.1.symm) C.2.2.2.1 (C.2.2.2.2.1 _ kw_1863) (C.2.2.2.2.1 _ kw_696) (C.2.2.2.2.1 _ kw_135) (C.2.2.2.2.1 _ kw_697) (Nat.le_of_ble_eq_true rfl) (Nat.le_of_ble_eq_true rfl) (Nat.le_refl 0) (Nat.le_refl 0) dX11_law_74 ?_
    refine lv_iload_n C.1 C.2.1 dX11_law_77 rfl (lv_at hl 0 rfl) ?_
    obtain ⟨q20, h21, hf⟩ := bd hf
    refine m_callV (As := [.int (0 : Int32), .int (0 : Int32), .int (gI S (gR S x0 52) x2.toNatClampNeg), .int (if ((gI S (gR S x0 53) x2.toNatClampNeg) + (1 : Int32)) < (999 : Int32) then ((gI S (gR S x0 53) x2.toNatClampNeg) + (1 : Int32)) else (999 : Int32)), .int ((gI S (gR S x0 43) (0 : Int32).toNatClampNeg) - ((gI S (gR S x0 43) (0 : Int32).toNatClampNeg) / (24 : Int32)) * (24 : Int32))]) (rest := []) C hW hx0 (cX11_calls_ok  hx0 h21) mlX11_379 (by decide) rfl hl.1 rfl (Nat.le_of_ble_eq_true rfl) (Nat.le_of_ble_eq_true rfl) (Nat.le_of_ble_eq_true rfl) dX11_law_78 (fun H locs hW => ?_)
    refine lv_goto (tgt := 112) C.1 C.2.1 dX11_law_81 rfl ?_
    exact kX11_law_112  C x0 x1 _ _ _ _ hx0 hW (lv_sub hl [1, 2] rfl) hf

set_option maxRecDepth 100000 in
theorem cX11_law_ok {l : Launch} {G : Gv} {L : List Nat} {S : MS} {a0 : Nat} {a1 : Int32} {a2 : Int32} {q : (Int64 × MS)} (ha0 : a0 < shM.1 ∧ shM.2.1 a0 = 11) (hf : fX11_law a0 a1 a2 S = some q) : Mt l yX11_law cX11_law 4 (some .long) (4) G shM L S [.ref (ad L a0), .int a1, .int a2] (some (.long q.1)) q.2 := by
  refine m_enter (lv := [(0, .ref (ad L a0)), (1, .int a1), (2, .int a2)]) (plainFor_of_name (by decide)) (Nat.le_of_ble_eq_true rfl) rfl ?_
  intro p e s m below meth c A ls C hW hl
  unfold fX11_law at hf
  refine lv_aload_n C.1 C.2.1 dX11_law_0 rfl (lv_at hl 0 rfl) ?_
  refine lv_iconst C.1 C.2.1 dX11_law_1 ic_0 ?_
  refine m_puti C hW ha0 fpX11_163 dX11_law_2 (fun H locs hW => ?_)
  refine lv_iload_n C.1 C.2.1 dX11_law_5 rfl (lv_at hl 1 rfl) ?_
  refine lv_if_lt (tgt := 35) C.1 C.2.1 dX11_law_6 rfl (fun c22 => ?_) (fun c22 => ?_)
  · have hf := (if_pos c22).symm.trans hf
    refine lv_ldc2 C.1 C.2.1 C.2.2.2.1 (C.2.2.2.2.1 _ kw_1862) dX11_law_35 ?_
    cases hf
    exact m_lret C hW dX11_law_38
  · have hf := (if_neg c22).symm.trans hf
    refine lv_iload_n C.1 C.2.1 dX11_law_9 rfl (lv_at hl 1 rfl) ?_
    refine lv_iconst C.1 C.2.1 dX11_law_10 ic_2 ?_
    refine lv_icmp_gt (tgt := 35) C.1 C.2.1 dX11_law_11 rfl (fun c23 => ?_) (fun c23 => ?_)
    · have hf := (if_pos c23).symm.trans hf
      refine lv_ldc2 C.1 C.2.1 C.2.2.2.1 (C.2.2.2.2.1 _ kw_1862) dX11_law_35 ?_
      cases hf
      exact m_lret C hW dX11_law_38
    · have hf := (if_neg c23).symm.trans hf
      refine lv_aload_n C.1 C.2.1 dX11_law_14 rfl (lv_at hl 0 rfl) ?_
      refine lv_iload_n C.1 C.2.1 dX11_law_15 rfl (lv_at hl 1 rfl) ?_
      obtain ⟨q24, h25, hf⟩ := bd hf
      refine m_callV (As := [.int a1]) (rest := []) C hW ha0 (cX11_hasLaw_ok  ha0 h25) mlX11_364 (by decide) rfl hl.1 rfl (Nat.le_of_ble_eq_true rfl) (Nat.le_of_ble_eq_true rfl) (Nat.le_of_ble_eq_true rfl) dX11_law_16 (fun H locs hW => ?_)
      refine lv_if_eq (tgt := 35) C.1 C.2.1 dX11_law_19 rfl (fun c26 => ?_) (fun c26 => ?_)
      · have hf := (if_pos c26).symm.trans hf
        refine lv_ldc2 C.1 C.2.1 C.2.2.2.1 (C.2.2.2.2.1 _ kw_1862) dX11_law_35 ?_
        cases hf
        exact m_lret C hW dX11_law_38
      · have hf := (if_neg c26).symm.trans hf
        refine lv_iload_n C.1 C.2.1 dX11_law_22 rfl (lv_at hl 1 rfl) ?_
        refine lv_iconst C.1 C.2.1 dX11_law_23 ic_1 ?_
        refine lv_icmp_ne (tgt := 39) C.1 C.2.1 dX11_law_24 rfl (fun c27 => ?_) (fun c27 => ?_)
        · have hf := (if_neg c27).symm.trans hf
          exact kX11_law_39  C a0 a1 a2 _ _ _ _ ha0 hW (lv_sub hl [0, 1, 2] rfl) hf
        · have hf := (if_pos c27).symm.trans hf
          refine lv_aload_n C.1 C.2.1 dX11_law_27 rfl (lv_at hl 0 rfl) ?_
          refine lv_iload_n C.1 C.2.1 dX11_law_28 rfl (lv_at hl 2 rfl) ?_
          obtain ⟨q28, h29, hf⟩ := bd hf
          refine m_callV (As := [.int a2]) (rest := []) C hW ha0 (cX11_isMan_ok  ha0 h29) mlX11_475 (by decide) rfl hl.1 rfl (Nat.le_of_ble_eq_true rfl) (Nat.le_of_ble_eq_true rfl) (Nat.le_of_ble_eq_true rfl) dX11_law_29 (fun H locs hW => ?_)
          refine lv_if_ne (tgt := 39) C.1 C.2.1 dX11_law_32 rfl (fun c30 => ?_) (fun c30 => ?_)
          · have hf := (if_neg c30).symm.trans hf
            exact kX11_law_39  C a0 a1 a2 _ _ _ _ ha0 hW (lv_sub hl [0, 1, 2] rfl) hf
          · have hf := (if_pos c30).symm.trans hf
            refine lv_ldc2 C.1 C.2.1 C.2.2.2.1 (C.2.2.2.2.1 _ kw_1862) dX11_law_35 ?_
            cases hf
            exact m_lret C hW dX11_law_38

def fX11_way_118 (K63 : Nat → Int32 → Int32 → Int32 → MS → Option (Int32 × MS)) (K72 : Nat → Int32 → Int32 → Int32 → Int32 → MS → Option (Int32 × MS)) (x0 : Nat) (x1 : Int32) (x2 : Int32) (x3 : Int32) (x4 : Int32) (S : MS) : Option (Int32 × MS) := K72 x0 x1 x2 x3 (x4 + (1 : Int32)) S
def fX11_way_82 (K63 : Nat → Int32 → Int32 → Int32 → MS → Option (Int32 × MS)) (K72 : Nat → Int32 → Int32 → Int32 → Int32 → MS → Option (Int32 × MS)) : Nat → Nat → Int32 → Int32 → Int32 → Int32 → Int32 → MS → Option (Int32 × MS)
  | 0, _, _, _, _, _, _, _ => none
  | n + 1, x0, x1, x2, x3, x4, x5, S => (if (4 : Int32) ≤ x5 then fX11_way_118 K63 K72 x0 x1 x2 x3 x4 S else (if bnd x4 (lnM (gR S x0 62)) = true then (if (999 : Int32) ≤ (gI S (gR S x0 62) x4.toNatClampNeg) then fX11_way_118 K63 K72 x0 x1 x2 x3 x4 S else (fX11_isNearer  x0 x4 x5 S).bind fun q5 => (fX11_way_82 K63 K72 n) x0 x1 x2 (x3 ||| q5.1) x4 (x5 + (1 : Int32)) q5.2) else none))
def fX11_way_72 (K63 : Nat → Int32 → Int32 → Int32 → MS → Option (Int32 × MS)) : Nat → Nat → Int32 → Int32 → Int32 → Int32 → MS → Option (Int32 × MS)
  | 0, _, _, _, _, _, _ => none
  | n + 1, x0, x1, x2, x3, x4, S => (if (64 : Int32) ≤ x4 then K63 x0 x1 x2 x3 S else fX11_way_82 K63 (fX11_way_72 K63 n) 1000 x0 x1 x2 x3 x4 (0 : Int32) S)
def fX11_way_63  : Nat → Nat → Int32 → Int32 → Int32 → MS → Option (Int32 × MS)
  | 0, _, _, _, _, _ => none
  | n + 1, x0, x1, x2, x3, S => (if x3 = (0 : Int32) then (if bnd (((8 : Int32) * x1) + x2) (lnM (gR S x0 62)) = true then (if gI S (gR S x0 62) (((8 : Int32) * x1) + x2).toNatClampNeg = (999 : Int32) then some ((-2 : Int32), S) else some (gI S (gR S x0 62) (((8 : Int32) * x1) + x2).toNatClampNeg, S)) else none) else fX11_way_72 (fX11_way_63  n) 1000 x0 x1 x2 (0 : Int32) (0 : Int32) S)
def fX11_way_61  (x0 : Nat) (x1 : Int32) (x2 : Int32) (S : MS) : Option (Int32 × MS) := fX11_way_63  1000 x0 x1 x2 (1 : Int32) S
def fX11_way_18  : Nat → Nat → Int32 → Int32 → Int32 → MS → Option (Int32 × MS)
  | 0, _, _, _, _, _ => none
  | n + 1, x0, x1, x2, x3, S => (if (64 : Int32) ≤ x3 then (if bnd (0 : Int32) (lnM (gR S x0 46)) = true then (if bnd (0 : Int32) (lnM (gR S x0 47)) = true then (if bnd (((8 : Int32) * (gI S (gR S x0 46) (0 : Int32).toNatClampNeg)) + (gI S (gR S x0 47) (0 : Int32).toNatClampNeg)) (lnM (gR S x0 62)) = true then fX11_way_61  x0 x1 x2 (pI S (gR S x0 62) ((((8 : Int32) * (gI S (gR S x0 46) (0 : Int32).toNatClampNeg)) + (gI S (gR S x0 47) (0 : Int32).toNatClampNeg)).toNatClampNeg) (0 : Int32)) else none) else none) else none) else (if bnd x3 (lnM (gR S x0 62)) = true then (fX11_way_18  n) x0 x1 x2 (x3 + (1 : Int32)) (pI S (gR S x0 62) x3.toNatClampNeg (999 : Int32)) else none))
def fX11_way (a0 : Nat) (a1 : Int32) (a2 : Int32) (S : MS) : Option (Int32 × MS) := (fX11_isCell  a0 a1 a2 (pI S a0 0 (0 : Int32))).bind fun q21 => (if q21 = (0 : Int32) then some ((-1 : Int32), pI S a0 0 (0 : Int32)) else fX11_way_18  1000 a0 a1 a2 (0 : Int32) (pI S a0 0 (0 : Int32)))
set_option maxRecDepth 100000 in
theorem kX11_way_118 {p : Program} {l : Launch} {e : Env} {s : State} {m : MethodId} {av : Array Value} {below : List Frame} {meth : Method} {c : Code} {A : Nat → Prop} {G : Gv} {L : List Nat} {q : (Int32 × MS)} {K63 : Nat → Int32 → Int32 → Int32 → MS → Option (Int32 × MS)} {K72 : Nat → Int32 → Int32 → Int32 → Int32 → MS → Option (Int32 × MS)} (hK63 : ∀ (x0 : Nat) (x1 : Int32) (x2 : Int32) (x3 : Int32) (S : MS) (H : Heap) (locs : List Loc) (ls : Array Slot), (x0 < shM.1 ∧ shM.2.1 x0 = 11) → mW G shM L S A s H locs → lv_has ls 6 [(0, .ref (ad L x0)), (1, .int x1), (2, .int x2), (3, .int x3)] → K63 x0 x1 x2 x3 S = some q → W p l e (rmd (4)) s m av below meth c H locs 0 0 (MQ below (mQ G shM L q.2 (some (.int q.1)) A) av s 0 0 A) (F0 m 63 ls [])) (hK72 : ∀ (x0 : Nat) (x1 : Int32) (x2 : Int32) (x3 : Int32) (x4 : Int32) (S : MS) (H : Heap) (locs : List Loc) (ls : Array Slot), (x0 < shM.1 ∧ shM.2.1 x0 = 11) → mW G shM L S A s H locs → lv_has ls 6 [(0, .ref (ad L x0)), (1, .int x1), (2, .int x2), (3, .int x3), (4, .int x4)] → K72 x0 x1 x2 x3 x4 S = some q → W p l e (rmd (4)) s m av below meth c H locs 0 0 (MQ below (mQ G shM L q.2 (some (.int q.1)) A) av s 0 0 A) (F0 m 72 ls [])) (C : mC p s m av meth c cX11_way RX11 6 (some .int)) : ∀ (x0 : Nat) (x1 : Int32) (x2 : Int32) (x3 : Int32) (x4 : Int32) (S : MS) (H : Heap) (locs : List Loc) (ls : Array Slot), (x0 < shM.1 ∧ shM.2.1 x0 = 11) → mW G shM L S A s H locs → lv_has ls 6 [(0, .ref (ad L x0)), (1, .int x1), (2, .int x2), (3, .int x3), (4, .int x4)] → fX11_way_118 K63 K72 x0 x1 x2 x3 x4 S = some q → W p l e (rmd (4)) s m av below meth c H locs 0 0 (MQ below (mQ G shM L q.2 (some (.int q.1)) A) av s 0 0 A) (F0 m 118 ls []) := by
  intro x0 x1 x2 x3 x4 S H locs ls hx0 hW hl hf
  unfold fX11_way_118 at hf
  refine lv_iinc (v := x4 + (1 : Int32)) (lv' := [(4, .int (x4 + (1 : Int32))), (0, .ref (ad L x0)), (1, .int x1), (2, .int x2), (3, .int x3)]) C.1 C.2.1 dX11_way_118 hl (k := 4) rfl (congrArg (fun z => x4 + z) ic_1) (by decide) rfl (fun ls hl => ?_)
  refine lv_goto (tgt := 72) C.1 C.2.1 dX11_way_121 rfl ?_
  exact hK72 x0 x1 x2 x3 (x4 + (1 : Int32)) _ _ _ _ hx0 hW (lv_sub hl [1, 2, 3, 4, 0] rfl) hf

set_option maxRecDepth 100000 in
theorem kX11_way_82 {p : Program} {l : Launch} {e : Env} {s : State} {m : MethodId} {av : Array Value} {below : List Frame} {meth : Method} {c : Code} {A : Nat → Prop} {G : Gv} {L : List Nat} {q : (Int32 × MS)} {K63 : Nat → Int32 → Int32 → Int32 → MS → Option (Int32 × MS)} {K72 : Nat → Int32 → Int32 → Int32 → Int32 → MS → Option (Int32 × MS)} (hK63 : ∀ (x0 : Nat) (x1 : Int32) (x2 : Int32) (x3 : Int32) (S : MS) (H : Heap) (locs : List Loc) (ls : Array Slot), (x0 < shM.1 ∧ shM.2.1 x0 = 11) → mW G shM L S A s H locs → lv_has ls 6 [(0, .ref (ad L x0)), (1, .int x1), (2, .int x2), (3, .int x3)] → K63 x0 x1 x2 x3 S = some q → W p l e (rmd (4)) s m av below meth c H locs 0 0 (MQ below (mQ G shM L q.2 (some (.int q.1)) A) av s 0 0 A) (F0 m 63 ls [])) (hK72 : ∀ (x0 : Nat) (x1 : Int32) (x2 : Int32) (x3 : Int32) (x4 : Int32) (S : MS) (H : Heap) (locs : List Loc) (ls : Array Slot), (x0 < shM.1 ∧ shM.2.1 x0 = 11) → mW G shM L S A s H locs → lv_has ls 6 [(0, .ref (ad L x0)), (1, .int x1), (2, .int x2), (3, .int x3), (4, .int x4)] → K72 x0 x1 x2 x3 x4 S = some q → W p l e (rmd (4)) s m av below meth c H locs 0 0 (MQ below (mQ G shM L q.2 (some (.int q.1)) A) av s 0 0 A) (F0 m 72 ls [])) (C : mC p s m av meth c cX11_way RX11 6 (some .int)) : ∀ (n : Nat) (x0 : Nat) (x1 : Int32) (x2 : Int32) (x3 : Int32) (x4 : Int32) (x5 : Int32) (S : MS) (H : Heap) (locs : List Loc) (ls : Array Slot), (x0 < shM.1 ∧ shM.2.1 x0 = 11) → mW G shM L S A s H locs → lv_has ls 6 [(0, .ref (ad L x0)), (1, .int x1), (2, .int x2), (3, .int x3), (4, .int x4), (5, .int x5)] → fX11_way_82 K63 K72 n x0 x1 x2 x3 x4 x5 S = some q → W p l e (rmd (4)) s m av below meth c H locs 0 0 (MQ below (mQ G shM L q.2 (some (.int q.1)) A) av s 0 0 A) (F0 m 82 ls []) := by
  intro n
  induction n with
  | zero =>
    intro x0 x1 x2 x3 x4 x5 S H locs ls hx0 hW hl hf
    rw [fX11_way_82] at hf
    cases hf
  | succ n ih =>
    intro x0 x1 x2 x3 x4 x5 S H locs ls hx0 hW hl hf
    rw [fX11_way_82] at hf
    refine lv_iload C.1 C.2.1 dX11_way_82 (lv_at hl 5 rfl) ?_
    refine lv_iconst C.1 C.2.1 dX11_way_84 ic_4 ?_
    refine lv_icmp_ge (tgt := 118) C.1 C.2.1 dX11_way_85 rfl (fun c1 => ?_) (fun c1 => ?_)
    · have hf := (if_pos c1).symm.trans hf
      exact kX11_way_118 hK63 hK72 C x0 x1 x2 x3 x4 _ _ _ _ hx0 hW (lv_sub hl [0, 1, 2, 3, 4] rfl) hf
    · have hf := (if_neg c1).symm.trans hf
      refine lv_aload_n C.1 C.2.1 dX11_way_88 rfl (lv_at hl 0 rfl) ?_
      refine m_getr C hW hx0 flX11_129 (by decide) dX11_way_89 (fun hk2 => ?_)
      refine lv_iload C.1 C.2.1 dX11_way_92 (lv_at hl 4 rfl) ?_
      obtain ⟨hb3, hf⟩ := gd hf
      refine m_iald C hW hk2 hb3 dX11_way_94 ?_
      refine lv_sipush C.1 C.2.1 dX11_way_95 sp_999 ?_
      refine lv_icmp_ge (tgt := 118) C.1 C.2.1 dX11_way_98 rfl (fun c4 => ?_) (fun c4 => ?_)
      · have hf := (if_pos c4).symm.trans hf
        exact kX11_way_118 hK63 hK72 C x0 x1 x2 x3 x4 _ _ _ _ hx0 hW (lv_sub hl [0, 1, 2, 3, 4] rfl) hf
      · have hf := (if_neg c4).symm.trans hf
        refine lv_iload_n C.1 C.2.1 dX11_way_101 rfl (lv_at hl 3 rfl) ?_
        refine lv_aload_n C.1 C.2.1 dX11_way_102 rfl (lv_at hl 0 rfl) ?_
        refine lv_iload C.1 C.2.1 dX11_way_103 (lv_at hl 4 rfl) ?_
        refine lv_iload C.1 C.2.1 dX11_way_105 (lv_at hl 5 rfl) ?_
        obtain ⟨q5, h6, hf⟩ := bd hf
        refine m_callV (As := [.int x4, .int x5]) (rest := [.int x3]) C hW hx0 (cX11_isNearer_ok  hx0 h6) mlX11_503 (by decide) rfl hl.1 rfl (Nat.le_of_ble_eq_true rfl) (Nat.le_of_ble_eq_true rfl) (Nat.le_of_ble_eq_true rfl) dX11_way_107 (fun H locs hW => ?_)
        refine lv_ior C.1 C.2.1 dX11_way_110 ?_
        refine lv_istore_n (lv' := [(3, .int (x3 ||| q5.1)), (0, .ref (ad L x0)), (1, .int x1), (2, .int x2), (4, .int x4), (5, .int x5)]) C.1 C.2.1 dX11_way_111 rfl hl (by decide) rfl (fun ls hl => ?_)
        refine lv_iinc (v := x5 + (1 : Int32)) (lv' := [(5, .int (x5 + (1 : Int32))), (3, .int (x3 ||| q5.1)), (0, .ref (ad L x0)), (1, .int x1), (2, .int x2), (4, .int x4)]) C.1 C.2.1 dX11_way_112 hl (k := 5) rfl (congrArg (fun z => x5 + z) ic_1) (by decide) rfl (fun ls hl => ?_)
        refine lv_goto (tgt := 82) C.1 C.2.1 dX11_way_115 rfl ?_
        exact ih x0 x1 x2 (x3 ||| q5.1) x4 (x5 + (1 : Int32)) _ _ _ _ hx0 hW (lv_sub hl [2, 3, 4, 1, 5, 0] rfl) hf

set_option maxRecDepth 100000 in
theorem kX11_way_72 {p : Program} {l : Launch} {e : Env} {s : State} {m : MethodId} {av : Array Value} {below : List Frame} {meth : Method} {c : Code} {A : Nat → Prop} {G : Gv} {L : List Nat} {q : (Int32 × MS)} {K63 : Nat → Int32 → Int32 → Int32 → MS → Option (Int32 × MS)} (hK63 : ∀ (x0 : Nat) (x1 : Int32) (x2 : Int32) (x3 : Int32) (S : MS) (H : Heap) (locs : List Loc) (ls : Array Slot), (x0 < shM.1 ∧ shM.2.1 x0 = 11) → mW G shM L S A s H locs → lv_has ls 6 [(0, .ref (ad L x0)), (1, .int x1), (2, .int x2), (3, .int x3)] → K63 x0 x1 x2 x3 S = some q → W p l e (rmd (4)) s m av below meth c H locs 0 0 (MQ below (mQ G shM L q.2 (some (.int q.1)) A) av s 0 0 A) (F0 m 63 ls [])) (C : mC p s m av meth c cX11_way RX11 6 (some .int)) : ∀ (n : Nat) (x0 : Nat) (x1 : Int32) (x2 : Int32) (x3 : Int32) (x4 : Int32) (S : MS) (H : Heap) (locs : List Loc) (ls : Array Slot), (x0 < shM.1 ∧ shM.2.1 x0 = 11) → mW G shM L S A s H locs → lv_has ls 6 [(0, .ref (ad L x0)), (1, .int x1), (2, .int x2), (3, .int x3), (4, .int x4)] → fX11_way_72 K63 n x0 x1 x2 x3 x4 S = some q → W p l e (rmd (4)) s m av below meth c H locs 0 0 (MQ below (mQ G shM L q.2 (some (.int q.1)) A) av s 0 0 A) (F0 m 72 ls []) := by
  intro n
  induction n with
  | zero =>
    intro x0 x1 x2 x3 x4 S H locs ls hx0 hW hl hf
    rw [fX11_way_72] at hf
    cases hf
  | succ n ih =>
    intro x0 x1 x2 x3 x4 S H locs ls hx0 hW hl hf
    rw [fX11_way_72] at hf
    refine lv_iload C.1 C.2.1 dX11_way_72 (lv_at hl 4 rfl) ?_
    refine lv_bipush C.1 C.2.1 dX11_way_74 bp_64 ?_
    refine lv_icmp_ge (tgt := 124) C.1 C.2.1 dX11_way_76 rfl (fun c7 => ?_) (fun c7 => ?_)
    · have hf := (if_pos c7).symm.trans hf
      refine lv_goto (tgt := 63) C.1 C.2.1 dX11_way_124 rfl ?_
      exact hK63 x0 x1 x2 x3 _ _ _ _ hx0 hW (lv_sub hl [0, 1, 2, 3] rfl) hf
    · have hf := (if_neg c7).symm.trans hf
      refine lv_iconst C.1 C.2.1 dX11_way_79 ic_0 ?_
      refine lv_istore (lv' := [(5, .int (0 : Int32)), (0, .ref (ad L x0)), (1, .int x1), (2, .int x2), (3, .int x3), (4, .int x4)]) C.1 C.2.1 dX11_way_80 hl (by decide) rfl (fun ls hl => ?_)
      exact kX11_way_82 hK63 ih C 1000 x0 x1 x2 x3 x4 (0 : Int32) _ _ _ _ hx0 hW (lv_sub hl [1, 2, 3, 4, 5, 0] rfl) hf

set_option maxRecDepth 100000 in
theorem kX11_way_63 {p : Program} {l : Launch} {e : Env} {s : State} {m : MethodId} {av : Array Value} {below : List Frame} {meth : Method} {c : Code} {A : Nat → Prop} {G : Gv} {L : List Nat} {q : (Int32 × MS)}  (C : mC p s m av meth c cX11_way RX11 6 (some .int)) : ∀ (n : Nat) (x0 : Nat) (x1 : Int32) (x2 : Int32) (x3 : Int32) (S : MS) (H : Heap) (locs : List Loc) (ls : Array Slot), (x0 < shM.1 ∧ shM.2.1 x0 = 11) → mW G shM L S A s H locs → lv_has ls 6 [(0, .ref (ad L x0)), (1, .int x1), (2, .int x2), (3, .int x3)] → fX11_way_63  n x0 x1 x2 x3 S = some q → W p l e (rmd (4)) s m av below meth c H locs 0 0 (MQ below (mQ G shM L q.2 (some (.int q.1)) A) av s 0 0 A) (F0 m 63 ls []) := by
  intro n
  induction n with
  | zero =>
    intro x0 x1 x2 x3 S H locs ls hx0 hW hl hf
    rw [fX11_way_63] at hf
    cases hf
  | succ n ih =>
    intro x0 x1 x2 x3 S H locs ls hx0 hW hl hf
    rw [fX11_way_63] at hf
    refine lv_iload_n C.1 C.2.1 dX11_way_63 rfl (lv_at hl 3 rfl) ?_
    refine lv_if_eq (tgt := 127) C.1 C.2.1 dX11_way_64 rfl (fun c8 => ?_) (fun c8 => ?_)
    · have hf := (if_pos c8).symm.trans hf
      refine lv_aload_n C.1 C.2.1 dX11_way_127 rfl (lv_at hl 0 rfl) ?_
      refine m_getr C hW hx0 flX11_129 (by decide) dX11_way_128 (fun hk9 => ?_)
      refine lv_bipush C.1 C.2.1 dX11_way_131 bp_8 ?_
      refine lv_iload_n C.1 C.2.1 dX11_way_133 rfl (lv_at hl 1 rfl) ?_
      refine lv_imul C.1 C.2.1 dX11_way_134 ?_
      refine lv_iload_n C.1 C.2.1 dX11_way_135 rfl (lv_at hl 2 rfl) ?_
      refine lv_iadd C.1 C.2.1 dX11_way_136 ?_
      obtain ⟨hb10, hf⟩ := gd hf
      refine m_iald C hW hk9 hb10 dX11_way_137 ?_
      refine lv_istore (lv' := [(4, .int (gI S (gR S x0 62) (((8 : Int32) * x1) + x2).toNatClampNeg)), (0, .ref (ad L x0)), (1, .int x1), (2, .int x2), (3, .int x3)]) C.1 C.2.1 dX11_way_138 hl (by decide) rfl (fun ls hl => ?_)
      refine lv_iload C.1 C.2.1 dX11_way_140 (lv_at hl 0 rfl) ?_
      refine lv_sipush C.1 C.2.1 dX11_way_142 sp_999 ?_
      refine lv_icmp_ne (tgt := 153) C.1 C.2.1 dX11_way_145 rfl (fun c11 => ?_) (fun c11 => ?_)
      · have hf := (if_neg c11).symm.trans hf
        refine lv_iload C.1 C.2.1 dX11_way_153 (lv_at hl 0 rfl) ?_
        cases hf
        exact m_iret C hW dX11_way_155
      · have hf := (if_pos c11).symm.trans hf
        refine lv_bipush C.1 C.2.1 dX11_way_148 bp_m2 ?_
        refine lv_goto (tgt := 155) C.1 C.2.1 dX11_way_150 rfl ?_
        cases hf
        exact m_iret C hW dX11_way_155
    · have hf := (if_neg c8).symm.trans hf
      refine lv_iconst C.1 C.2.1 dX11_way_67 ic_0 ?_
      refine lv_istore_n (lv' := [(3, .int (0 : Int32)), (0, .ref (ad L x0)), (1, .int x1), (2, .int x2)]) C.1 C.2.1 dX11_way_68 rfl hl (by decide) rfl (fun ls hl => ?_)
      refine lv_iconst C.1 C.2.1 dX11_way_69 ic_0 ?_
      refine lv_istore (lv' := [(4, .int (0 : Int32)), (3, .int (0 : Int32)), (0, .ref (ad L x0)), (1, .int x1), (2, .int x2)]) C.1 C.2.1 dX11_way_70 hl (by decide) rfl (fun ls hl => ?_)
      exact kX11_way_72 ih C 1000 x0 x1 x2 (0 : Int32) (0 : Int32) _ _ _ _ hx0 hW (lv_sub hl [2, 3, 4, 1, 0] rfl) hf

set_option maxRecDepth 100000 in
theorem kX11_way_61 {p : Program} {l : Launch} {e : Env} {s : State} {m : MethodId} {av : Array Value} {below : List Frame} {meth : Method} {c : Code} {A : Nat → Prop} {G : Gv} {L : List Nat} {q : (Int32 × MS)}  (C : mC p s m av meth c cX11_way RX11 6 (some .int)) : ∀ (x0 : Nat) (x1 : Int32) (x2 : Int32) (S : MS) (H : Heap) (locs : List Loc) (ls : Array Slot), (x0 < shM.1 ∧ shM.2.1 x0 = 11) → mW G shM L S A s H locs → lv_has ls 6 [(0, .ref (ad L x0)), (1, .int x1), (2, .int x2)] → fX11_way_61  x0 x1 x2 S = some q → W p l e (rmd (4)) s m av below meth c H locs 0 0 (MQ below (mQ G shM L q.2 (some (.int q.1)) A) av s 0 0 A) (F0 m 61 ls []) := by
  intro x0 x1 x2 S H locs ls hx0 hW hl hf
  unfold fX11_way_61 at hf
  refine lv_iconst C.1 C.2.1 dX11_way_61 ic_1 ?_
  refine lv_istore_n (lv' := [(3, .int (1 : Int32)), (0, .ref (ad L x0)), (1, .int x1), (2, .int x2)]) C.1 C.2.1 dX11_way_62 rfl hl (by decide) rfl (fun ls hl => ?_)
  exact kX11_way_63  C 1000 x0 x1 x2 (1 : Int32) _ _ _ _ hx0 hW (lv_sub hl [1, 2, 3, 0] rfl) hf

set_option maxRecDepth 100000 in
theorem kX11_way_18 {p : Program} {l : Launch} {e : Env} {s : State} {m : MethodId} {av : Array Value} {below : List Frame} {meth : Method} {c : Code} {A : Nat → Prop} {G : Gv} {L : List Nat} {q : (Int32 × MS)}  (C : mC p s m av meth c cX11_way RX11 6 (some .int)) : ∀ (n : Nat) (x0 : Nat) (x1 : Int32) (x2 : Int32) (x3 : Int32) (S : MS) (H : Heap) (locs : List Loc) (ls : Array Slot), (x0 < shM.1 ∧ shM.2.1 x0 = 11) → mW G shM L S A s H locs → lv_has ls 6 [(0, .ref (ad L x0)), (1, .int x1), (2, .int x2), (3, .int x3)] → fX11_way_18  n x0 x1 x2 x3 S = some q → W p l e (rmd (4)) s m av below meth c H locs 0 0 (MQ below (mQ G shM L q.2 (some (.int q.1)) A) av s 0 0 A) (F0 m 18 ls []) := by
  intro n
  induction n with
  | zero =>
    intro x0 x1 x2 x3 S H locs ls hx0 hW hl hf
    rw [fX11_way_18] at hf
    cases hf
  | succ n ih =>
    intro x0 x1 x2 x3 S H locs ls hx0 hW hl hf
    rw [fX11_way_18] at hf
    refine lv_iload_n C.1 C.2.1 dX11_way_18 rfl (lv_at hl 3 rfl) ?_
    refine lv_bipush C.1 C.2.1 dX11_way_19 bp_64 ?_
    refine lv_icmp_ge (tgt := 39) C.1 C.2.1 dX11_way_21 rfl (fun c12 => ?_) (fun c12 => ?_)
    · have hf := (if_pos c12).symm.trans hf
      refine lv_aload_n C.1 C.2.1 dX11_way_39 rfl (lv_at hl 0 rfl) ?_
      refine m_getr C hW hx0 flX11_129 (by decide) dX11_way_40 (fun hk13 => ?_)
      refine lv_bipush C.1 C.2.1 dX11_way_43 bp_8 ?_
      refine lv_aload_n C.1 C.2.1 dX11_way_45 rfl (lv_at hl 0 rfl) ?_
      refine m_getr C hW hx0 flX11_102 (by decide) dX11_way_46 (fun hk14 => ?_)
      refine lv_iconst C.1 C.2.1 dX11_way_49 ic_0 ?_
      obtain ⟨hb15, hf⟩ := gd hf
      refine m_iald C hW hk14 hb15 dX11_way_50 ?_
      refine lv_imul C.1 C.2.1 dX11_way_51 ?_
      refine lv_aload_n C.1 C.2.1 dX11_way_52 rfl (lv_at hl 0 rfl) ?_
      refine m_getr C hW hx0 flX11_105 (by decide) dX11_way_53 (fun hk16 => ?_)
      refine lv_iconst C.1 C.2.1 dX11_way_56 ic_0 ?_
      obtain ⟨hb17, hf⟩ := gd hf
      refine m_iald C hW hk16 hb17 dX11_way_57 ?_
      refine lv_iadd C.1 C.2.1 dX11_way_58 ?_
      refine lv_iconst C.1 C.2.1 dX11_way_59 ic_0 ?_
      obtain ⟨hb18, hf⟩ := gd hf
      refine m_iast C hW hk13 hb18 dX11_way_60 (fun H locs hW => ?_)
      exact kX11_way_61  C x0 x1 x2 _ _ _ _ hx0 hW (lv_sub hl [0, 1, 2] rfl) hf
    · have hf := (if_neg c12).symm.trans hf
      refine lv_aload_n C.1 C.2.1 dX11_way_24 rfl (lv_at hl 0 rfl) ?_
      refine m_getr C hW hx0 flX11_129 (by decide) dX11_way_25 (fun hk19 => ?_)
      refine lv_iload_n C.1 C.2.1 dX11_way_28 rfl (lv_at hl 3 rfl) ?_
      refine lv_sipush C.1 C.2.1 dX11_way_29 sp_999 ?_
      obtain ⟨hb20, hf⟩ := gd hf
      refine m_iast C hW hk19 hb20 dX11_way_32 (fun H locs hW => ?_)
      refine lv_iinc (v := x3 + (1 : Int32)) (lv' := [(3, .int (x3 + (1 : Int32))), (0, .ref (ad L x0)), (1, .int x1), (2, .int x2)]) C.1 C.2.1 dX11_way_33 hl (k := 3) rfl (congrArg (fun z => x3 + z) ic_1) (by decide) rfl (fun ls hl => ?_)
      refine lv_goto (tgt := 18) C.1 C.2.1 dX11_way_36 rfl ?_
      exact ih x0 x1 x2 (x3 + (1 : Int32)) _ _ _ _ hx0 hW (lv_sub hl [1, 2, 3, 0] rfl) hf

set_option maxRecDepth 100000 in
theorem cX11_way_ok {l : Launch} {G : Gv} {L : List Nat} {S : MS} {a0 : Nat} {a1 : Int32} {a2 : Int32} {q : (Int32 × MS)} (ha0 : a0 < shM.1 ∧ shM.2.1 a0 = 11) (hf : fX11_way a0 a1 a2 S = some q) : Mt l yX11_way cX11_way 6 (some .int) (4) G shM L S [.ref (ad L a0), .int a1, .int a2] (some (.int q.1)) q.2 := by
  refine m_enter (lv := [(0, .ref (ad L a0)), (1, .int a1), (2, .int a2)]) (plainFor_of_name (by decide)) (Nat.le_of_ble_eq_true rfl) rfl ?_
  intro p e s m below meth c A ls C hW hl
  unfold fX11_way at hf
  refine lv_aload_n C.1 C.2.1 dX11_way_0 rfl (lv_at hl 0 rfl) ?_
  refine lv_iconst C.1 C.2.1 dX11_way_1 ic_0 ?_
  refine m_puti C hW ha0 fpX11_163 dX11_way_2 (fun H locs hW => ?_)
  refine lv_aload_n C.1 C.2.1 dX11_way_5 rfl (lv_at hl 0 rfl) ?_
  refine lv_iload_n C.1 C.2.1 dX11_way_6 rfl (lv_at hl 1 rfl) ?_
  refine lv_iload_n C.1 C.2.1 dX11_way_7 rfl (lv_at hl 2 rfl) ?_
  obtain ⟨q21, h22, hf⟩ := bd hf
  refine m_callV (As := [.int a1, .int a2]) (rest := []) C hW ha0 (cX11_isCell_ok  ha0 h22) mlX11_399 (by decide) rfl hl.1 rfl (Nat.le_of_ble_eq_true rfl) (Nat.le_of_ble_eq_true rfl) (Nat.le_of_ble_eq_true rfl) dX11_way_8 (fun H locs hW => ?_)
  refine lv_if_ne (tgt := 16) C.1 C.2.1 dX11_way_11 rfl (fun c23 => ?_) (fun c23 => ?_)
  · have hf := (if_neg c23).symm.trans hf
    refine lv_iconst C.1 C.2.1 dX11_way_16 ic_0 ?_
    refine lv_istore_n (lv' := [(3, .int (0 : Int32)), (0, .ref (ad L a0)), (1, .int a1), (2, .int a2)]) C.1 C.2.1 dX11_way_17 rfl hl (by decide) rfl (fun ls hl => ?_)
    exact kX11_way_18  C 1000 a0 a1 a2 (0 : Int32) _ _ _ _ ha0 hW (lv_sub hl [1, 2, 3, 0] rfl) hf
  · have hf := (if_pos c23).symm.trans hf
    refine lv_iconst C.1 C.2.1 dX11_way_14 ic_m1 ?_
    cases hf
    exact m_iret C hW dX11_way_15

def fX11_rests (a0 : Nat) (a1 : Int32) (a2 : Int32) (S : MS) : Option (Int32 × MS) := (fX11_areTwo  a0 a1 a2 (pI S a0 0 (0 : Int32))).bind fun q1 => (if q1 = (0 : Int32) then some ((-1 : Int32), pI S a0 0 (0 : Int32)) else (fX11_restOf  a0 a1 a2 (-1 : Int32) (pI S a0 0 (0 : Int32))).bind fun q4 => some (q4, pI S a0 0 (0 : Int32)))
set_option maxRecDepth 100000 in
theorem cX11_rests_ok {l : Launch} {G : Gv} {L : List Nat} {S : MS} {a0 : Nat} {a1 : Int32} {a2 : Int32} {q : (Int32 × MS)} (ha0 : a0 < shM.1 ∧ shM.2.1 a0 = 11) (hf : fX11_rests a0 a1 a2 S = some q) : Mt l yX11_rests cX11_rests 3 (some .int) (4) G shM L S [.ref (ad L a0), .int a1, .int a2] (some (.int q.1)) q.2 := by
  refine m_enter (lv := [(0, .ref (ad L a0)), (1, .int a1), (2, .int a2)]) (plainFor_of_name (by decide)) (Nat.le_of_ble_eq_true rfl) rfl ?_
  intro p e s m below meth c A ls C hW hl
  unfold fX11_rests at hf
  refine lv_aload_n C.1 C.2.1 dX11_rests_0 rfl (lv_at hl 0 rfl) ?_
  refine lv_iconst C.1 C.2.1 dX11_rests_1 ic_0 ?_
  refine m_puti C hW ha0 fpX11_163 dX11_rests_2 (fun H locs hW => ?_)
  refine lv_aload_n C.1 C.2.1 dX11_rests_5 rfl (lv_at hl 0 rfl) ?_
  refine lv_iload_n C.1 C.2.1 dX11_rests_6 rfl (lv_at hl 1 rfl) ?_
  refine lv_iload_n C.1 C.2.1 dX11_rests_7 rfl (lv_at hl 2 rfl) ?_
  obtain ⟨q1, h2, hf⟩ := bd hf
  refine m_callV (As := [.int a1, .int a2]) (rest := []) C hW ha0 (cX11_areTwo_ok  ha0 h2) mlX11_516 (by decide) rfl hl.1 rfl (Nat.le_of_ble_eq_true rfl) (Nat.le_of_ble_eq_true rfl) (Nat.le_of_ble_eq_true rfl) dX11_rests_8 (fun H locs hW => ?_)
  refine lv_if_eq (tgt := 24) C.1 C.2.1 dX11_rests_11 rfl (fun c3 => ?_) (fun c3 => ?_)
  · have hf := (if_pos c3).symm.trans hf
    refine lv_iconst C.1 C.2.1 dX11_rests_24 ic_m1 ?_
    cases hf
    exact m_iret C hW dX11_rests_25
  · have hf := (if_neg c3).symm.trans hf
    refine lv_aload_n C.1 C.2.1 dX11_rests_14 rfl (lv_at hl 0 rfl) ?_
    refine lv_iload_n C.1 C.2.1 dX11_rests_15 rfl (lv_at hl 1 rfl) ?_
    refine lv_iload_n C.1 C.2.1 dX11_rests_16 rfl (lv_at hl 2 rfl) ?_
    refine lv_iconst C.1 C.2.1 dX11_rests_17 ic_m1 ?_
    obtain ⟨q4, h5, hf⟩ := bd hf
    refine m_callV (As := [.int a1, .int a2, .int (-1 : Int32)]) (rest := []) C hW ha0 (cX11_restOf_ok  ha0 h5) mlX11_519 (by decide) rfl hl.1 rfl (Nat.le_of_ble_eq_true rfl) (Nat.le_of_ble_eq_true rfl) (Nat.le_of_ble_eq_true rfl) dX11_rests_18 (fun H locs hW => ?_)
    refine lv_goto (tgt := 25) C.1 C.2.1 dX11_rests_21 rfl ?_
    cases hf
    exact m_iret C hW dX11_rests_25

def fX11_rest (a0 : Nat) (a1 : Int32) (a2 : Int32) (a3 : Int32) (S : MS) : Option (Int32 × MS) := (fX11_areTwo  a0 a1 a2 (pI S a0 0 (0 : Int32))).bind fun q1 => (if q1 = (0 : Int32) then some ((-1 : Int32), pI S a0 0 (0 : Int32)) else (if a3 < (0 : Int32) then some ((-1 : Int32), pI S a0 0 (0 : Int32)) else (fX11_restOf  a0 a1 a2 a3 (pI S a0 0 (0 : Int32))).bind fun q5 => some (q5, pI S a0 0 (0 : Int32))))
set_option maxRecDepth 100000 in
theorem cX11_rest_ok {l : Launch} {G : Gv} {L : List Nat} {S : MS} {a0 : Nat} {a1 : Int32} {a2 : Int32} {a3 : Int32} {q : (Int32 × MS)} (ha0 : a0 < shM.1 ∧ shM.2.1 a0 = 11) (hf : fX11_rest a0 a1 a2 a3 S = some q) : Mt l yX11_rest cX11_rest 4 (some .int) (4) G shM L S [.ref (ad L a0), .int a1, .int a2, .int a3] (some (.int q.1)) q.2 := by
  refine m_enter (lv := [(0, .ref (ad L a0)), (1, .int a1), (2, .int a2), (3, .int a3)]) (plainFor_of_name (by decide)) (Nat.le_of_ble_eq_true rfl) rfl ?_
  intro p e s m below meth c A ls C hW hl
  unfold fX11_rest at hf
  refine lv_aload_n C.1 C.2.1 dX11_rest_0 rfl (lv_at hl 0 rfl) ?_
  refine lv_iconst C.1 C.2.1 dX11_rest_1 ic_0 ?_
  refine m_puti C hW ha0 fpX11_163 dX11_rest_2 (fun H locs hW => ?_)
  refine lv_aload_n C.1 C.2.1 dX11_rest_5 rfl (lv_at hl 0 rfl) ?_
  refine lv_iload_n C.1 C.2.1 dX11_rest_6 rfl (lv_at hl 1 rfl) ?_
  refine lv_iload_n C.1 C.2.1 dX11_rest_7 rfl (lv_at hl 2 rfl) ?_
  obtain ⟨q1, h2, hf⟩ := bd hf
  refine m_callV (As := [.int a1, .int a2]) (rest := []) C hW ha0 (cX11_areTwo_ok  ha0 h2) mlX11_516 (by decide) rfl hl.1 rfl (Nat.le_of_ble_eq_true rfl) (Nat.le_of_ble_eq_true rfl) (Nat.le_of_ble_eq_true rfl) dX11_rest_8 (fun H locs hW => ?_)
  refine lv_if_eq (tgt := 28) C.1 C.2.1 dX11_rest_11 rfl (fun c3 => ?_) (fun c3 => ?_)
  · have hf := (if_pos c3).symm.trans hf
    refine lv_iconst C.1 C.2.1 dX11_rest_28 ic_m1 ?_
    cases hf
    exact m_iret C hW dX11_rest_29
  · have hf := (if_neg c3).symm.trans hf
    refine lv_iload_n C.1 C.2.1 dX11_rest_14 rfl (lv_at hl 3 rfl) ?_
    refine lv_if_lt (tgt := 28) C.1 C.2.1 dX11_rest_15 rfl (fun c4 => ?_) (fun c4 => ?_)
    · have hf := (if_pos c4).symm.trans hf
      refine lv_iconst C.1 C.2.1 dX11_rest_28 ic_m1 ?_
      cases hf
      exact m_iret C hW dX11_rest_29
    · have hf := (if_neg c4).symm.trans hf
      refine lv_aload_n C.1 C.2.1 dX11_rest_18 rfl (lv_at hl 0 rfl) ?_
      refine lv_iload_n C.1 C.2.1 dX11_rest_19 rfl (lv_at hl 1 rfl) ?_
      refine lv_iload_n C.1 C.2.1 dX11_rest_20 rfl (lv_at hl 2 rfl) ?_
      refine lv_iload_n C.1 C.2.1 dX11_rest_21 rfl (lv_at hl 3 rfl) ?_
      obtain ⟨q5, h6, hf⟩ := bd hf
      refine m_callV (As := [.int a1, .int a2, .int a3]) (rest := []) C hW ha0 (cX11_restOf_ok  ha0 h6) mlX11_519 (by decide) rfl hl.1 rfl (Nat.le_of_ble_eq_true rfl) (Nat.le_of_ble_eq_true rfl) (Nat.le_of_ble_eq_true rfl) dX11_rest_22 (fun H locs hW => ?_)
      refine lv_goto (tgt := 29) C.1 C.2.1 dX11_rest_25 rfl ?_
      cases hf
      exact m_iret C hW dX11_rest_29

