def fX11_lawLine_65  (x0 : Nat) (x1 : Int32) (S : MS) : Option MS := (if gI S x0 34 = (0 : Int32) then (fX11_token  x0 (pI S x0 27 ((gI S x0 27) ||| ((1 : Int32) <<< (((16 : Int32) + x1) &&& 31))))).bind fun q2 => (fX11_fresher  x0 (12 : Int32) q2).bind fun q5 => (if bnd ((3 : Int32) + x1) (lnM (gR q2 x0 22)) = true then (fX11_expression  x0 (pI q2 (gR q2 x0 22) (((3 : Int32) + x1).toNatClampNeg) q5)).bind fun q8 => (fX11_fresher  x0 (12 : Int32) q8).bind fun q11 => (if bnd ((3 : Int32) + x1) (lnM (gR q8 x0 23)) = true then some (pI q8 (gR q8 x0 23) (((3 : Int32) + x1).toNatClampNeg) q11) else none) else none) else some S)
def fX11_lawLine_30  (x0 : Nat) (S : MS) : Option MS := (if gI S x0 34 = (0 : Int32) then (if ((gI S x0 27) >>> (((16 : Int32) + ((gI S x0 33) - (11 : Int32))) &&& 31)) &&& (1 : Int32) = (1 : Int32) then (fX11_wrong  x0 (3 : Int32) S).bind fun q16 => fX11_lawLine_65  x0 ((gI S x0 33) - (11 : Int32)) q16 else fX11_lawLine_65  x0 ((gI S x0 33) - (11 : Int32)) S) else fX11_lawLine_65  x0 ((gI S x0 33) - (11 : Int32)) S)
def fX11_lawLine_25  (x0 : Nat) (S : MS) : Option MS := (fX11_wrong  x0 (1 : Int32) S).bind fun q18 => fX11_lawLine_30  x0 q18
def fX11_lawLine (a0 : Nat) (S : MS) : Option MS := (if gI S a0 32 = (0 : Int32) then (if (gI S a0 33) < (11 : Int32) then fX11_lawLine_25  a0 S else (if (gI S a0 33) ≤ (13 : Int32) then fX11_lawLine_30  a0 S else fX11_lawLine_25  a0 S)) else fX11_lawLine_25  a0 S)
set_option maxRecDepth 100000 in
theorem kX11_lawLine_65 {p : Program} {l : Launch} {e : Env} {s : State} {m : MethodId} {av : Array Value} {below : List Frame} {meth : Method} {c : Code} {A : Nat → Prop} {G : Gv} {L : List Nat} {q : MS}  (C : mC p s m av meth c cX11_lawLine RX11 2 none) : ∀ (x0 : Nat) (x1 : Int32) (S : MS) (H : Heap) (locs : List Loc) (ls : Array Slot), (x0 < shM.1 ∧ shM.2.1 x0 = 11) → mW G shM L S A s H locs → lv_has ls 2 [(0, .ref (ad L x0)), (1, .int x1)] → fX11_lawLine_65  x0 x1 S = some q → W p l e (rmd (1073)) s m av below meth c H locs 0 0 (MQ below (mQ G shM L q none A) av s 0 0 A) (F0 m 65 ls []) := by
  intro x0 x1 S H locs ls hx0 hW hl hf
  unfold fX11_lawLine_65 at hf
  refine lv_aload_n C.1 C.2.1 dX11_lawLine_65 rfl (lv_at hl 0 rfl) ?_
  refine m_geti C hW hx0 flX11_217 dX11_lawLine_66 ?_
  refine lv_if_eq (tgt := 73) C.1 C.2.1 dX11_lawLine_69 rfl (fun c1 => ?_) (fun c1 => ?_)
  · have hf := (if_pos c1).symm.trans hf
    refine lv_aload_n C.1 C.2.1 dX11_lawLine_73 rfl (lv_at hl 0 rfl) ?_
    refine lv_dup C.1 C.2.1 dX11_lawLine_74 rfl ?_
    refine m_geti C hW hx0 flX11_246 dX11_lawLine_75 ?_
    refine lv_iconst C.1 C.2.1 dX11_lawLine_78 ic_1 ?_
    refine lv_bipush C.1 C.2.1 dX11_lawLine_79 bp_16 ?_
    refine lv_iload_n C.1 C.2.1 dX11_lawLine_81 rfl (lv_at hl 1 rfl) ?_
    refine lv_iadd C.1 C.2.1 dX11_lawLine_82 ?_
    refine lv_ishl C.1 C.2.1 dX11_lawLine_83 ?_
    refine lv_ior C.1 C.2.1 dX11_lawLine_84 ?_
    refine m_puti C hW hx0 fpX11_246 dX11_lawLine_85 (fun H locs hW => ?_)
    refine lv_aload_n C.1 C.2.1 dX11_lawLine_88 rfl (lv_at hl 0 rfl) ?_
    obtain ⟨q2, h3, hf⟩ := bd hf
    refine m_callV (As := []) (rest := []) C hW hx0 (cX11_token_ok  hx0 h3) mlX11_223 (by decide) rfl hl.1 rfl (Nat.le_of_ble_eq_true rfl) (Nat.le_of_ble_eq_true rfl) (Nat.le_of_ble_eq_true rfl) dX11_lawLine_89 (fun H locs hW => ?_)
    refine lv_aload_n C.1 C.2.1 dX11_lawLine_92 rfl (lv_at hl 0 rfl) ?_
    refine m_getr C hW hx0 flX11_70 (by decide) dX11_lawLine_93 (fun hk4 => ?_)
    refine lv_iconst C.1 C.2.1 dX11_lawLine_96 ic_3 ?_
    refine lv_iload_n C.1 C.2.1 dX11_lawLine_97 rfl (lv_at hl 1 rfl) ?_
    refine lv_iadd C.1 C.2.1 dX11_lawLine_98 ?_
    refine lv_aload_n C.1 C.2.1 dX11_lawLine_99 rfl (lv_at hl 0 rfl) ?_
    refine lv_bipush C.1 C.2.1 dX11_lawLine_100 bp_12 ?_
    obtain ⟨q5, h6, hf⟩ := bd hf
    refine m_callV (As := [.int (12 : Int32)]) (rest := [.int ((3 : Int32) + x1), .ref (ad L (gR q2 x0 22))]) C hW hx0 (cX11_fresher_ok  hx0 h6) mlX11_233 (by decide) rfl hl.1 rfl (Nat.le_of_ble_eq_true rfl) (Nat.le_of_ble_eq_true rfl) (Nat.le_of_ble_eq_true rfl) dX11_lawLine_102 (fun H locs hW => ?_)
    obtain ⟨hb7, hf⟩ := gd hf
    refine m_iast C hW hk4 hb7 dX11_lawLine_105 (fun H locs hW => ?_)
    refine lv_aload_n C.1 C.2.1 dX11_lawLine_106 rfl (lv_at hl 0 rfl) ?_
    obtain ⟨q8, h9, hf⟩ := bd hf
    refine m_callV (As := []) (rest := []) C hW hx0 (cX11_expression_ok  hx0 h9) mlX11_282 (by decide) rfl hl.1 rfl (Nat.le_of_ble_eq_true rfl) (Nat.le_of_ble_eq_true rfl) (Nat.le_of_ble_eq_true rfl) dX11_lawLine_107 (fun H locs hW => ?_)
    refine lv_aload_n C.1 C.2.1 dX11_lawLine_110 rfl (lv_at hl 0 rfl) ?_
    refine m_getr C hW hx0 flX11_73 (by decide) dX11_lawLine_111 (fun hk10 => ?_)
    refine lv_iconst C.1 C.2.1 dX11_lawLine_114 ic_3 ?_
    refine lv_iload_n C.1 C.2.1 dX11_lawLine_115 rfl (lv_at hl 1 rfl) ?_
    refine lv_iadd C.1 C.2.1 dX11_lawLine_116 ?_
    refine lv_aload_n C.1 C.2.1 dX11_lawLine_117 rfl (lv_at hl 0 rfl) ?_
    refine lv_bipush C.1 C.2.1 dX11_lawLine_118 bp_12 ?_
    obtain ⟨q11, h12, hf⟩ := bd hf
    refine m_callV (As := [.int (12 : Int32)]) (rest := [.int ((3 : Int32) + x1), .ref (ad L (gR q8 x0 23))]) C hW hx0 (cX11_fresher_ok  hx0 h12) mlX11_233 (by decide) rfl hl.1 rfl (Nat.le_of_ble_eq_true rfl) (Nat.le_of_ble_eq_true rfl) (Nat.le_of_ble_eq_true rfl) dX11_lawLine_120 (fun H locs hW => ?_)
    obtain ⟨hb13, hf⟩ := gd hf
    refine m_iast C hW hk10 hb13 dX11_lawLine_123 (fun H locs hW => ?_)
    cases hf
    exact m_vret C hW dX11_lawLine_124
  · have hf := (if_neg c1).symm.trans hf
    cases hf
    exact m_vret C hW dX11_lawLine_72

set_option maxRecDepth 100000 in
theorem kX11_lawLine_30 {p : Program} {l : Launch} {e : Env} {s : State} {m : MethodId} {av : Array Value} {below : List Frame} {meth : Method} {c : Code} {A : Nat → Prop} {G : Gv} {L : List Nat} {q : MS}  (C : mC p s m av meth c cX11_lawLine RX11 2 none) : ∀ (x0 : Nat) (S : MS) (H : Heap) (locs : List Loc) (ls : Array Slot), (x0 < shM.1 ∧ shM.2.1 x0 = 11) → mW G shM L S A s H locs → lv_has ls 2 [(0, .ref (ad L x0))] → fX11_lawLine_30  x0 S = some q → W p l e (rmd (1073)) s m av below meth c H locs 0 0 (MQ below (mQ G shM L q none A) av s 0 0 A) (F0 m 30 ls []) := by
  intro x0 S H locs ls hx0 hW hl hf
  unfold fX11_lawLine_30 at hf
  refine lv_aload_n C.1 C.2.1 dX11_lawLine_30 rfl (lv_at hl 0 rfl) ?_
  refine m_geti C hW hx0 flX11_192 dX11_lawLine_31 ?_
  refine lv_bipush C.1 C.2.1 dX11_lawLine_34 bp_11 ?_
  refine lv_isub C.1 C.2.1 dX11_lawLine_36 ?_
  refine lv_istore_n (lv' := [(1, .int ((gI S x0 33) - (11 : Int32))), (0, .ref (ad L x0))]) C.1 C.2.1 dX11_lawLine_37 rfl hl (by decide) rfl (fun ls hl => ?_)
  refine lv_aload_n C.1 C.2.1 dX11_lawLine_38 rfl (lv_at hl 1 rfl) ?_
  refine m_geti C hW hx0 flX11_217 dX11_lawLine_39 ?_
  refine lv_if_ne (tgt := 65) C.1 C.2.1 dX11_lawLine_42 rfl (fun c14 => ?_) (fun c14 => ?_)
  · have hf := (if_neg c14).symm.trans hf
    exact kX11_lawLine_65  C x0 ((gI S x0 33) - (11 : Int32)) _ _ _ _ hx0 hW (lv_sub hl [1, 0] rfl) hf
  · have hf := (if_pos c14).symm.trans hf
    refine lv_aload_n C.1 C.2.1 dX11_lawLine_45 rfl (lv_at hl 1 rfl) ?_
    refine m_geti C hW hx0 flX11_246 dX11_lawLine_46 ?_
    refine lv_bipush C.1 C.2.1 dX11_lawLine_49 bp_16 ?_
    refine lv_iload_n C.1 C.2.1 dX11_lawLine_51 rfl (lv_at hl 0 rfl) ?_
    refine lv_iadd C.1 C.2.1 dX11_lawLine_52 ?_
    refine lv_ishr C.1 C.2.1 dX11_lawLine_53 ?_
    refine lv_iconst C.1 C.2.1 dX11_lawLine_54 ic_1 ?_
    refine lv_iand C.1 C.2.1 dX11_lawLine_55 ?_
    refine lv_iconst C.1 C.2.1 dX11_lawLine_56 ic_1 ?_
    refine lv_icmp_ne (tgt := 65) C.1 C.2.1 dX11_lawLine_57 rfl (fun c15 => ?_) (fun c15 => ?_)
    · have hf := (if_neg c15).symm.trans hf
      exact kX11_lawLine_65  C x0 ((gI S x0 33) - (11 : Int32)) _ _ _ _ hx0 hW (lv_sub hl [1, 0] rfl) hf
    · have hf := (if_pos c15).symm.trans hf
      refine lv_aload_n C.1 C.2.1 dX11_lawLine_60 rfl (lv_at hl 1 rfl) ?_
      refine lv_iconst C.1 C.2.1 dX11_lawLine_61 ic_3 ?_
      obtain ⟨q16, h17, hf⟩ := bd hf
      refine m_callV (As := [.int (3 : Int32)]) (rest := []) C hW hx0 (cX11_wrong_ok  hx0 h17) mlX11_226 (by decide) rfl hl.1 rfl (Nat.le_of_ble_eq_true rfl) (Nat.le_of_ble_eq_true rfl) (Nat.le_of_ble_eq_true rfl) dX11_lawLine_62 (fun H locs hW => ?_)
      exact kX11_lawLine_65  C x0 ((gI S x0 33) - (11 : Int32)) _ _ _ _ hx0 hW (lv_sub hl [1, 0] rfl) hf

set_option maxRecDepth 100000 in
theorem kX11_lawLine_25 {p : Program} {l : Launch} {e : Env} {s : State} {m : MethodId} {av : Array Value} {below : List Frame} {meth : Method} {c : Code} {A : Nat → Prop} {G : Gv} {L : List Nat} {q : MS}  (C : mC p s m av meth c cX11_lawLine RX11 2 none) : ∀ (x0 : Nat) (S : MS) (H : Heap) (locs : List Loc) (ls : Array Slot), (x0 < shM.1 ∧ shM.2.1 x0 = 11) → mW G shM L S A s H locs → lv_has ls 2 [(0, .ref (ad L x0))] → fX11_lawLine_25  x0 S = some q → W p l e (rmd (1073)) s m av below meth c H locs 0 0 (MQ below (mQ G shM L q none A) av s 0 0 A) (F0 m 25 ls []) := by
  intro x0 S H locs ls hx0 hW hl hf
  unfold fX11_lawLine_25 at hf
  refine lv_aload_n C.1 C.2.1 dX11_lawLine_25 rfl (lv_at hl 0 rfl) ?_
  refine lv_iconst C.1 C.2.1 dX11_lawLine_26 ic_1 ?_
  obtain ⟨q18, h19, hf⟩ := bd hf
  refine m_callV (As := [.int (1 : Int32)]) (rest := []) C hW hx0 (cX11_wrong_ok  hx0 h19) mlX11_226 (by decide) rfl hl.1 rfl (Nat.le_of_ble_eq_true rfl) (Nat.le_of_ble_eq_true rfl) (Nat.le_of_ble_eq_true rfl) dX11_lawLine_27 (fun H locs hW => ?_)
  exact kX11_lawLine_30  C x0 _ _ _ _ hx0 hW (lv_sub hl [0] rfl) hf

set_option maxRecDepth 100000 in
theorem cX11_lawLine_ok {l : Launch} {G : Gv} {L : List Nat} {S : MS} {a0 : Nat} {q : MS} (ha0 : a0 < shM.1 ∧ shM.2.1 a0 = 11) (hf : fX11_lawLine a0 S = some q) : Mt l yX11_lawLine cX11_lawLine 2 none (1073) G shM L S [.ref (ad L a0)] none q := by
  refine m_enter (lv := [(0, .ref (ad L a0))]) (plainFor_of_name (by decide)) (Nat.le_of_ble_eq_true rfl) rfl ?_
  intro p e s m below meth c A ls C hW hl
  unfold fX11_lawLine at hf
  refine lv_aload_n C.1 C.2.1 dX11_lawLine_0 rfl (lv_at hl 0 rfl) ?_
  refine m_geti C hW ha0 flX11_182 dX11_lawLine_1 ?_
  refine lv_if_ne (tgt := 25) C.1 C.2.1 dX11_lawLine_4 rfl (fun c20 => ?_) (fun c20 => ?_)
  · have hf := (if_neg c20).symm.trans hf
    exact kX11_lawLine_25  C a0 _ _ _ _ ha0 hW (lv_sub hl [0] rfl) hf
  · have hf := (if_pos c20).symm.trans hf
    refine lv_aload_n C.1 C.2.1 dX11_lawLine_7 rfl (lv_at hl 0 rfl) ?_
    refine m_geti C hW ha0 flX11_192 dX11_lawLine_8 ?_
    refine lv_bipush C.1 C.2.1 dX11_lawLine_11 bp_11 ?_
    refine lv_icmp_lt (tgt := 25) C.1 C.2.1 dX11_lawLine_13 rfl (fun c21 => ?_) (fun c21 => ?_)
    · have hf := (if_pos c21).symm.trans hf
      exact kX11_lawLine_25  C a0 _ _ _ _ ha0 hW (lv_sub hl [0] rfl) hf
    · have hf := (if_neg c21).symm.trans hf
      refine lv_aload_n C.1 C.2.1 dX11_lawLine_16 rfl (lv_at hl 0 rfl) ?_
      refine m_geti C hW ha0 flX11_192 dX11_lawLine_17 ?_
      refine lv_bipush C.1 C.2.1 dX11_lawLine_20 bp_13 ?_
      refine lv_icmp_le (tgt := 30) C.1 C.2.1 dX11_lawLine_22 rfl (fun c22 => ?_) (fun c22 => ?_)
      · have hf := (if_pos c22).symm.trans hf
        exact kX11_lawLine_30  C a0 _ _ _ _ ha0 hW (lv_sub hl [0] rfl) hf
      · have hf := (if_neg c22).symm.trans hf
        exact kX11_lawLine_25  C a0 _ _ _ _ ha0 hW (lv_sub hl [0] rfl) hf

def fX11_line_63  (x0 : Nat) (S : MS) : Option MS := (fX11_wrong  x0 (1 : Int32) S).bind fun q1 => some q1
def fX11_line_625  (x0 : Nat) (S : MS) : Option MS := some (pI S x0 28 ((gI S x0 28) + (1 : Int32)))
def fX11_line_596  (x0 : Nat) (S : MS) : Option MS := (if gI S x0 34 = (0 : Int32) then (fX11_isSign  x0 (59 : Int32) S).bind fun q4 => (if q4 = (0 : Int32) then (fX11_wrong  x0 (1 : Int32) S).bind fun q9 => fX11_line_625  x0 q9 else (fX11_token  x0 S).bind fun q7 => fX11_line_625  x0 q7) else some S)
def fX11_line_304  (x0 : Nat) (x3 : Int32) (S : MS) : Option MS := (fX11_numeral  x0 (1 : Int32) (9 : Int32) S).bind fun q12 => (if bnd x3 (lnM (gR S x0 11)) = true then (fX11_fresher  x0 (6 : Int32) (pI q12.2 (gR S x0 11) x3.toNatClampNeg q12.1)).bind fun q15 => (fX11_reads  x0 (6 : Int32) (q15 + (1 : Int32)) (pI q12.2 (gR S x0 11) x3.toNatClampNeg q12.1)).bind fun q17 => fX11_line_596  x0 q17 else none)
def fX11_line_372  (x0 : Nat) (S : MS) : Option MS := (fX11_fresher  x0 (7 : Int32) S).bind fun q19 => (fX11_reads  x0 (7 : Int32) (q19 + (1 : Int32)) S).bind fun q21 => fX11_line_596  x0 q21
def fX11_line_447  (x0 : Nat) (x5 : Int32) (S : MS) : Option MS := (fX11_columnToken  x0 S).bind fun q24 => (if bnd x5 (lnM (gR S x0 17)) = true then (fX11_numeral  x0 (1 : Int32) (99 : Int32) (pI q24.2 (gR S x0 17) x5.toNatClampNeg q24.1)).bind fun q28 => (if bnd x5 (lnM (gR (pI q24.2 (gR S x0 17) x5.toNatClampNeg q24.1) x0 18)) = true then (fX11_fresher  x0 (8 : Int32) (pI q28.2 (gR (pI q24.2 (gR S x0 17) x5.toNatClampNeg q24.1) x0 18) x5.toNatClampNeg q28.1)).bind fun q31 => (fX11_reads  x0 (8 : Int32) (q31 + (1 : Int32)) (pI q28.2 (gR (pI q24.2 (gR S x0 17) x5.toNatClampNeg q24.1) x0 18) x5.toNatClampNeg q28.1)).bind fun q33 => fX11_line_596  x0 q33 else none) else none)
def fX11_line_436  (x0 : Nat) (x5 : Int32) (S : MS) : Option MS := (fX11_rowToken  x0 S).bind fun q36 => (if bnd x5 (lnM (gR S x0 16)) = true then fX11_line_447  x0 x5 (pI q36.2 (gR S x0 16) x5.toNatClampNeg q36.1) else none)
def fX11_line_532  (x0 : Nat) (x6 : Int32) (S : MS) : Option MS := (fX11_columnToken  x0 S).bind fun q40 => (if bnd x6 (lnM (gR S x0 21)) = true then (fX11_fresher  x0 (9 : Int32) (pI q40.2 (gR S x0 21) x6.toNatClampNeg q40.1)).bind fun q43 => (fX11_reads  x0 (9 : Int32) (q43 + (1 : Int32)) (pI q40.2 (gR S x0 21) x6.toNatClampNeg q40.1)).bind fun q45 => fX11_line_596  x0 q45 else none)
def fX11_line_114  (x0 : Nat) (x2 : Int32) (S : MS) : Option MS := (if gI S x0 34 = (0 : Int32) then (fX11_token  x0 (pI S x0 27 ((gI S x0 27) ||| ((1 : Int32) <<< (x2 &&& 31))))).bind fun q48 => (if x2 = (0 : Int32) then (fX11_numeral  x0 (1 : Int32) (8 : Int32) q48).bind fun q51 => (fX11_reads  x0 (0 : Int32) q51.1 q51.2).bind fun q53 => (fX11_numeral  x0 (1 : Int32) (8 : Int32) q53).bind fun q55 => (fX11_reads  x0 (1 : Int32) q55.1 q55.2).bind fun q57 => fX11_line_596  x0 q57 else if x2 = (1 : Int32) then (fX11_rowToken  x0 q48).bind fun q60 => (fX11_reads  x0 (2 : Int32) q60.1 q60.2).bind fun q62 => (fX11_columnToken  x0 q62).bind fun q64 => (fX11_reads  x0 (3 : Int32) q64.1 q64.2).bind fun q66 => fX11_line_596  x0 q66 else if x2 = (2 : Int32) then (fX11_wallLine  x0 q48).bind fun q69 => fX11_line_596  x0 q69 else if x2 = (3 : Int32) then (fX11_sunLine  x0 q48).bind fun q72 => fX11_line_596  x0 q72 else if x2 = (4 : Int32) then (fX11_fresher  x0 (6 : Int32) q48).bind fun q75 => (fX11_fresher  x0 (6 : Int32) q48).bind fun q79 => (fX11_fresh  x0 (gR q48 x0 8) (4 : Int32) q79 q48).bind fun q81 => (if bnd ((4 : Int32) + q75) (lnM (gR q48 x0 8)) = true then (fX11_rowToken  x0 (pI q81.2 (gR q48 x0 8) (((4 : Int32) + q75).toNatClampNeg) q81.1)).bind fun q85 => (if bnd ((4 : Int32) + q75) (lnM (gR (pI q81.2 (gR q48 x0 8) (((4 : Int32) + q75).toNatClampNeg) q81.1) x0 9)) = true then (fX11_columnToken  x0 (pI q85.2 (gR (pI q81.2 (gR q48 x0 8) (((4 : Int32) + q75).toNatClampNeg) q81.1) x0 9) (((4 : Int32) + q75).toNatClampNeg) q85.1)).bind fun q89 => (if bnd ((4 : Int32) + q75) (lnM (gR (pI q85.2 (gR (pI q81.2 (gR q48 x0 8) (((4 : Int32) + q75).toNatClampNeg) q81.1) x0 9) (((4 : Int32) + q75).toNatClampNeg) q85.1) x0 10)) = true then fX11_line_304  x0 ((4 : Int32) + q75) (pI q89.2 (gR (pI q85.2 (gR (pI q81.2 (gR q48 x0 8) (((4 : Int32) + q75).toNatClampNeg) q81.1) x0 9) (((4 : Int32) + q75).toNatClampNeg) q85.1) x0 10) (((4 : Int32) + q75).toNatClampNeg) q89.1) else none) else none) else none) else if x2 = (5 : Int32) then (fX11_fresher  x0 (7 : Int32) q48).bind fun q93 => (fX11_numeral  x0 (0 : Int32) (99 : Int32) q48).bind fun q96 => (if bnd ((12 : Int32) + q93) (lnM (gR q48 x0 12)) = true then (fX11_numeral  x0 (0 : Int32) (3 : Int32) (pI q96.2 (gR q48 x0 12) (((12 : Int32) + q93).toNatClampNeg) q96.1)).bind fun q100 => (if bnd ((12 : Int32) + q93) (lnM (gR (pI q96.2 (gR q48 x0 12) (((12 : Int32) + q93).toNatClampNeg) q96.1) x0 13)) = true then fX11_line_372  x0 (pI q100.2 (gR (pI q96.2 (gR q48 x0 12) (((12 : Int32) + q93).toNatClampNeg) q96.1) x0 13) (((12 : Int32) + q93).toNatClampNeg) q100.1) else none) else none) else if x2 = (6 : Int32) then (fX11_fresher  x0 (8 : Int32) q48).bind fun q104 => (fX11_fresher  x0 (8 : Int32) q48).bind fun q108 => (fX11_fresh  x0 (gR q48 x0 14) (8 : Int32) q108 q48).bind fun q110 => (if bnd ((8 : Int32) + q104) (lnM (gR q48 x0 14)) = true then (fX11_numeral  x0 (0 : Int32) (1 : Int32) (pI q110.2 (gR q48 x0 14) (((8 : Int32) + q104).toNatClampNeg) q110.1)).bind fun q114 => (if bnd ((8 : Int32) + q104) (lnM (gR (pI q110.2 (gR q48 x0 14) (((8 : Int32) + q104).toNatClampNeg) q110.1) x0 15)) = true then fX11_line_436  x0 ((8 : Int32) + q104) (pI q114.2 (gR (pI q110.2 (gR q48 x0 14) (((8 : Int32) + q104).toNatClampNeg) q110.1) x0 15) (((8 : Int32) + q104).toNatClampNeg) q114.1) else none) else none) else if x2 = (7 : Int32) then (fX11_fresher  x0 (9 : Int32) q48).bind fun q118 => (fX11_fresher  x0 (9 : Int32) q48).bind fun q122 => (fX11_fresh  x0 (gR q48 x0 19) (4 : Int32) q122 q48).bind fun q124 => (if bnd ((4 : Int32) + q118) (lnM (gR q48 x0 19)) = true then (fX11_rowToken  x0 (pI q124.2 (gR q48 x0 19) (((4 : Int32) + q118).toNatClampNeg) q124.1)).bind fun q128 => (if bnd ((4 : Int32) + q118) (lnM (gR (pI q124.2 (gR q48 x0 19) (((4 : Int32) + q118).toNatClampNeg) q124.1) x0 20)) = true then fX11_line_532  x0 ((4 : Int32) + q118) (pI q128.2 (gR (pI q124.2 (gR q48 x0 19) (((4 : Int32) + q118).toNatClampNeg) q124.1) x0 20) (((4 : Int32) + q118).toNatClampNeg) q128.1) else none) else none) else if x2 = (8 : Int32) then (fX11_numeral  x0 (0 : Int32) (100 : Int32) q48).bind fun q132 => (fX11_reads  x0 (10 : Int32) q132.1 q132.2).bind fun q134 => fX11_line_596  x0 q134 else if x2 = (9 : Int32) then (fX11_numeral  x0 (0 : Int32) (99999 : Int32) q48).bind fun q137 => (fX11_reads  x0 (11 : Int32) q137.1 q137.2).bind fun q139 => fX11_line_596  x0 q139 else (fX11_lawLine  x0 q48).bind fun q141 => fX11_line_596  x0 q141) else some S)
def fX11_line_42  (x0 : Nat) (y0 : Int32) (S : MS) : Option MS := (if gI S x0 32 = (0 : Int32) then (if (10 : Int32) < (gI S x0 33) then fX11_line_63  x0 S else (if y0 = (0 : Int32) then (fX11_isFull  x0 (gI S x0 33) S).bind fun q147 => (if q147 = (0 : Int32) then (fX11_isOnce  (gI S x0 33) S).bind fun q150 => (if q150 = (0 : Int32) then fX11_line_114  x0 (gI S x0 33) S else (if ((gI S x0 27) >>> ((gI S x0 33) &&& 31)) &&& (1 : Int32) = (1 : Int32) then (fX11_wrong  x0 (3 : Int32) S).bind fun q154 => fX11_line_114  x0 (gI S x0 33) q154 else fX11_line_114  x0 (gI S x0 33) S)) else (fX11_wrong  x0 (2 : Int32) S).bind fun q156 => fX11_line_114  x0 (gI S x0 33) q156) else fX11_line_63  x0 S)) else fX11_line_63  x0 S)
def fX11_line_41  (x0 : Nat) (S : MS) : Option MS := fX11_line_42  x0 (0 : Int32) S
def fX11_line_37  (x0 : Nat) (S : MS) : Option MS := fX11_line_42  x0 (1 : Int32) S
def fX11_line_21  (x0 : Nat) (S : MS) : Option MS := (if gI S x0 33 = (1 : Int32) then (fX11_fresher  x0 (4 : Int32) S).bind fun q159 => (if q159 ≤ (0 : Int32) then fX11_line_41  x0 S else fX11_line_37  x0 S) else fX11_line_41  x0 S)
def fX11_line (a0 : Nat) (S : MS) : Option MS := (if gI S a0 32 = (0 : Int32) then (if gI S a0 33 = (0 : Int32) then (if (0 : Int32) < (gI S a0 28) then fX11_line_37  a0 S else fX11_line_21  a0 S) else fX11_line_21  a0 S) else fX11_line_41  a0 S)
set_option maxRecDepth 100000 in
theorem kX11_line_63 {p : Program} {l : Launch} {e : Env} {s : State} {m : MethodId} {av : Array Value} {below : List Frame} {meth : Method} {c : Code} {A : Nat → Prop} {G : Gv} {L : List Nat} {q : MS}  (C : mC p s m av meth c cX11_line RX11 7 none) : ∀ (x0 : Nat) (S : MS) (H : Heap) (locs : List Loc) (ls : Array Slot), (x0 < shM.1 ∧ shM.2.1 x0 = 11) → mW G shM L S A s H locs → lv_has ls 7 [(0, .ref (ad L x0))] → fX11_line_63  x0 S = some q → W p l e (rmd (1074)) s m av below meth c H locs 0 0 (MQ below (mQ G shM L q none A) av s 0 0 A) (F0 m 63 ls []) := by
  intro x0 S H locs ls hx0 hW hl hf
  unfold fX11_line_63 at hf
  refine lv_aload_n C.1 C.2.1 dX11_line_63 rfl (lv_at hl 0 rfl) ?_
  refine lv_iconst C.1 C.2.1 dX11_line_64 ic_1 ?_
  obtain ⟨q1, h2, hf⟩ := bd hf
  refine m_callV (As := [.int (1 : Int32)]) (rest := []) C hW hx0 (cX11_wrong_ok  hx0 h2) mlX11_226 (by decide) rfl hl.1 rfl (Nat.le_of_ble_eq_true rfl) (Nat.le_of_ble_eq_true rfl) (Nat.le_of_ble_eq_true rfl) dX11_line_65 (fun H locs hW => ?_)
  cases hf
  exact m_vret C hW dX11_line_68

set_option maxRecDepth 100000 in
theorem kX11_line_625 {p : Program} {l : Launch} {e : Env} {s : State} {m : MethodId} {av : Array Value} {below : List Frame} {meth : Method} {c : Code} {A : Nat → Prop} {G : Gv} {L : List Nat} {q : MS}  (C : mC p s m av meth c cX11_line RX11 7 none) : ∀ (x0 : Nat) (S : MS) (H : Heap) (locs : List Loc) (ls : Array Slot), (x0 < shM.1 ∧ shM.2.1 x0 = 11) → mW G shM L S A s H locs → lv_has ls 7 [(0, .ref (ad L x0))] → fX11_line_625  x0 S = some q → W p l e (rmd (1074)) s m av below meth c H locs 0 0 (MQ below (mQ G shM L q none A) av s 0 0 A) (F0 m 625 ls []) := by
  intro x0 S H locs ls hx0 hW hl hf
  unfold fX11_line_625 at hf
  refine lv_aload_n C.1 C.2.1 dX11_line_625 rfl (lv_at hl 0 rfl) ?_
  refine lv_dup C.1 C.2.1 dX11_line_626 rfl ?_
  refine m_geti C hW hx0 flX11_237 dX11_line_627 ?_
  refine lv_iconst C.1 C.2.1 dX11_line_630 ic_1 ?_
  refine lv_iadd C.1 C.2.1 dX11_line_631 ?_
  refine m_puti C hW hx0 fpX11_237 dX11_line_632 (fun H locs hW => ?_)
  cases hf
  exact m_vret C hW dX11_line_635

set_option maxRecDepth 100000 in
theorem kX11_line_596 {p : Program} {l : Launch} {e : Env} {s : State} {m : MethodId} {av : Array Value} {below : List Frame} {meth : Method} {c : Code} {A : Nat → Prop} {G : Gv} {L : List Nat} {q : MS}  (C : mC p s m av meth c cX11_line RX11 7 none) : ∀ (x0 : Nat) (S : MS) (H : Heap) (locs : List Loc) (ls : Array Slot), (x0 < shM.1 ∧ shM.2.1 x0 = 11) → mW G shM L S A s H locs → lv_has ls 7 [(0, .ref (ad L x0))] → fX11_line_596  x0 S = some q → W p l e (rmd (1074)) s m av below meth c H locs 0 0 (MQ below (mQ G shM L q none A) av s 0 0 A) (F0 m 596 ls []) := by
  intro x0 S H locs ls hx0 hW hl hf
  unfold fX11_line_596 at hf
  refine lv_aload_n C.1 C.2.1 dX11_line_596 rfl (lv_at hl 0 rfl) ?_
  refine m_geti C hW hx0 flX11_217 dX11_line_597 ?_
  refine lv_if_eq (tgt := 604) C.1 C.2.1 dX11_line_600 rfl (fun c3 => ?_) (fun c3 => ?_)
  · have hf := (if_pos c3).symm.trans hf
    refine lv_aload_n C.1 C.2.1 dX11_line_604 rfl (lv_at hl 0 rfl) ?_
    refine lv_bipush C.1 C.2.1 dX11_line_605 bp_59 ?_
    obtain ⟨q4, h5, hf⟩ := bd hf
    refine m_callV (As := [.int (59 : Int32)]) (rest := []) C hW hx0 (cX11_isSign_ok  hx0 h5) mlX11_276 (by decide) rfl hl.1 rfl (Nat.le_of_ble_eq_true rfl) (Nat.le_of_ble_eq_true rfl) (Nat.le_of_ble_eq_true rfl) dX11_line_607 (fun H locs hW => ?_)
    refine lv_if_ne (tgt := 621) C.1 C.2.1 dX11_line_610 rfl (fun c6 => ?_) (fun c6 => ?_)
    · have hf := (if_neg c6).symm.trans hf
      refine lv_aload_n C.1 C.2.1 dX11_line_621 rfl (lv_at hl 0 rfl) ?_
      obtain ⟨q7, h8, hf⟩ := bd hf
      refine m_callV (As := []) (rest := []) C hW hx0 (cX11_token_ok  hx0 h8) mlX11_223 (by decide) rfl hl.1 rfl (Nat.le_of_ble_eq_true rfl) (Nat.le_of_ble_eq_true rfl) (Nat.le_of_ble_eq_true rfl) dX11_line_622 (fun H locs hW => ?_)
      exact kX11_line_625  C x0 _ _ _ _ hx0 hW (lv_sub hl [0] rfl) hf
    · have hf := (if_pos c6).symm.trans hf
      refine lv_aload_n C.1 C.2.1 dX11_line_613 rfl (lv_at hl 0 rfl) ?_
      refine lv_iconst C.1 C.2.1 dX11_line_614 ic_1 ?_
      obtain ⟨q9, h10, hf⟩ := bd hf
      refine m_callV (As := [.int (1 : Int32)]) (rest := []) C hW hx0 (cX11_wrong_ok  hx0 h10) mlX11_226 (by decide) rfl hl.1 rfl (Nat.le_of_ble_eq_true rfl) (Nat.le_of_ble_eq_true rfl) (Nat.le_of_ble_eq_true rfl) dX11_line_615 (fun H locs hW => ?_)
      refine lv_goto (tgt := 625) C.1 C.2.1 dX11_line_618 rfl ?_
      exact kX11_line_625  C x0 _ _ _ _ hx0 hW (lv_sub hl [0] rfl) hf
  · have hf := (if_neg c3).symm.trans hf
    cases hf
    exact m_vret C hW dX11_line_603

set_option maxRecDepth 100000 in
theorem kX11_line_304 {p : Program} {l : Launch} {e : Env} {s : State} {m : MethodId} {av : Array Value} {below : List Frame} {meth : Method} {c : Code} {A : Nat → Prop} {G : Gv} {L : List Nat} {q : MS}  (C : mC p s m av meth c cX11_line RX11 7 none) : ∀ (x0 : Nat) (x3 : Int32) (S : MS) (H : Heap) (locs : List Loc) (ls : Array Slot), (x0 < shM.1 ∧ shM.2.1 x0 = 11) → mW G shM L S A s H locs → lv_has ls 7 [(0, .ref (ad L x0)), (3, .int x3)] → fX11_line_304  x0 x3 S = some q → W p l e (rmd (1074)) s m av below meth c H locs 0 0 (MQ below (mQ G shM L q none A) av s 0 0 A) (F0 m 304 ls []) := by
  intro x0 x3 S H locs ls hx0 hW hl hf
  unfold fX11_line_304 at hf
  refine lv_aload_n C.1 C.2.1 dX11_line_304 rfl (lv_at hl 0 rfl) ?_
  refine m_getr C hW hx0 flX11_37 (by decide) dX11_line_305 (fun hk11 => ?_)
  refine lv_iload_n C.1 C.2.1 dX11_line_308 rfl (lv_at hl 1 rfl) ?_
  refine lv_aload_n C.1 C.2.1 dX11_line_309 rfl (lv_at hl 0 rfl) ?_
  refine lv_iconst C.1 C.2.1 dX11_line_310 ic_1 ?_
  refine lv_bipush C.1 C.2.1 dX11_line_311 bp_9 ?_
  obtain ⟨q12, h13, hf⟩ := bd hf
  refine m_callV (As := [.int (1 : Int32), .int (9 : Int32)]) (rest := [.int x3, .ref (ad L (gR S x0 11))]) C hW hx0 (cX11_numeral_ok  hx0 h13) mlX11_249 (by decide) rfl hl.1 rfl (Nat.le_of_ble_eq_true rfl) (Nat.le_of_ble_eq_true rfl) (Nat.le_of_ble_eq_true rfl) dX11_line_313 (fun H locs hW => ?_)
  obtain ⟨hb14, hf⟩ := gd hf
  refine m_iast C hW hk11 hb14 dX11_line_316 (fun H locs hW => ?_)
  refine lv_aload_n C.1 C.2.1 dX11_line_317 rfl (lv_at hl 0 rfl) ?_
  refine lv_bipush C.1 C.2.1 dX11_line_318 bp_6 ?_
  refine lv_aload_n C.1 C.2.1 dX11_line_320 rfl (lv_at hl 0 rfl) ?_
  refine lv_bipush C.1 C.2.1 dX11_line_321 bp_6 ?_
  obtain ⟨q15, h16, hf⟩ := bd hf
  refine m_callV (As := [.int (6 : Int32)]) (rest := [.int (6 : Int32), .ref (ad L x0)]) C hW hx0 (cX11_fresher_ok  hx0 h16) mlX11_233 (by decide) rfl hl.1 rfl (Nat.le_of_ble_eq_true rfl) (Nat.le_of_ble_eq_true rfl) (Nat.le_of_ble_eq_true rfl) dX11_line_323 (fun H locs hW => ?_)
  refine lv_iconst C.1 C.2.1 dX11_line_326 ic_1 ?_
  refine lv_iadd C.1 C.2.1 dX11_line_327 ?_
  obtain ⟨q17, h18, hf⟩ := bd hf
  refine m_callV (As := [.int (6 : Int32), .int (q15 + (1 : Int32))]) (rest := []) C hW hx0 (cX11_reads_ok  hx0 h18) mlX11_253 (by decide) rfl hl.1 rfl (Nat.le_of_ble_eq_true rfl) (Nat.le_of_ble_eq_true rfl) (Nat.le_of_ble_eq_true rfl) dX11_line_328 (fun H locs hW => ?_)
  refine lv_goto (tgt := 596) C.1 C.2.1 dX11_line_331 rfl ?_
  exact kX11_line_596  C x0 _ _ _ _ hx0 hW (lv_sub hl [0] rfl) hf

set_option maxRecDepth 100000 in
theorem kX11_line_372 {p : Program} {l : Launch} {e : Env} {s : State} {m : MethodId} {av : Array Value} {below : List Frame} {meth : Method} {c : Code} {A : Nat → Prop} {G : Gv} {L : List Nat} {q : MS}  (C : mC p s m av meth c cX11_line RX11 7 none) : ∀ (x0 : Nat) (S : MS) (H : Heap) (locs : List Loc) (ls : Array Slot), (x0 < shM.1 ∧ shM.2.1 x0 = 11) → mW G shM L S A s H locs → lv_has ls 7 [(0, .ref (ad L x0))] → fX11_line_372  x0 S = some q → W p l e (rmd (1074)) s m av below meth c H locs 0 0 (MQ below (mQ G shM L q none A) av s 0 0 A) (F0 m 372 ls []) := by
  intro x0 S H locs ls hx0 hW hl hf
  unfold fX11_line_372 at hf
  refine lv_aload_n C.1 C.2.1 dX11_line_372 rfl (lv_at hl 0 rfl) ?_
  refine lv_bipush C.1 C.2.1 dX11_line_373 bp_7 ?_
  refine lv_aload_n C.1 C.2.1 dX11_line_375 rfl (lv_at hl 0 rfl) ?_
  refine lv_bipush C.1 C.2.1 dX11_line_376 bp_7 ?_
  obtain ⟨q19, h20, hf⟩ := bd hf
  refine m_callV (As := [.int (7 : Int32)]) (rest := [.int (7 : Int32), .ref (ad L x0)]) C hW hx0 (cX11_fresher_ok  hx0 h20) mlX11_233 (by decide) rfl hl.1 rfl (Nat.le_of_ble_eq_true rfl) (Nat.le_of_ble_eq_true rfl) (Nat.le_of_ble_eq_true rfl) dX11_line_378 (fun H locs hW => ?_)
  refine lv_iconst C.1 C.2.1 dX11_line_381 ic_1 ?_
  refine lv_iadd C.1 C.2.1 dX11_line_382 ?_
  obtain ⟨q21, h22, hf⟩ := bd hf
  refine m_callV (As := [.int (7 : Int32), .int (q19 + (1 : Int32))]) (rest := []) C hW hx0 (cX11_reads_ok  hx0 h22) mlX11_253 (by decide) rfl hl.1 rfl (Nat.le_of_ble_eq_true rfl) (Nat.le_of_ble_eq_true rfl) (Nat.le_of_ble_eq_true rfl) dX11_line_383 (fun H locs hW => ?_)
  refine lv_goto (tgt := 596) C.1 C.2.1 dX11_line_386 rfl ?_
  exact kX11_line_596  C x0 _ _ _ _ hx0 hW (lv_sub hl [0] rfl) hf

set_option maxRecDepth 100000 in
theorem kX11_line_447 {p : Program} {l : Launch} {e : Env} {s : State} {m : MethodId} {av : Array Value} {below : List Frame} {meth : Method} {c : Code} {A : Nat → Prop} {G : Gv} {L : List Nat} {q : MS}  (C : mC p s m av meth c cX11_line RX11 7 none) : ∀ (x0 : Nat) (x5 : Int32) (S : MS) (H : Heap) (locs : List Loc) (ls : Array Slot), (x0 < shM.1 ∧ shM.2.1 x0 = 11) → mW G shM L S A s H locs → lv_has ls 7 [(0, .ref (ad L x0)), (5, .int x5)] → fX11_line_447  x0 x5 S = some q → W p l e (rmd (1074)) s m av below meth c H locs 0 0 (MQ below (mQ G shM L q none A) av s 0 0 A) (F0 m 447 ls []) := by
  intro x0 x5 S H locs ls hx0 hW hl hf
  unfold fX11_line_447 at hf
  refine lv_aload_n C.1 C.2.1 dX11_line_447 rfl (lv_at hl 0 rfl) ?_
  refine m_getr C hW hx0 flX11_55 (by decide) dX11_line_448 (fun hk23 => ?_)
  refine lv_iload C.1 C.2.1 dX11_line_451 (lv_at hl 1 rfl) ?_
  refine lv_aload_n C.1 C.2.1 dX11_line_453 rfl (lv_at hl 0 rfl) ?_
  obtain ⟨q24, h25, hf⟩ := bd hf
  refine m_callV (As := []) (rest := [.int x5, .ref (ad L (gR S x0 17))]) C hW hx0 (cX11_columnToken_ok  hx0 h25) mlX11_260 (by decide) rfl hl.1 rfl (Nat.le_of_ble_eq_true rfl) (Nat.le_of_ble_eq_true rfl) (Nat.le_of_ble_eq_true rfl) dX11_line_454 (fun H locs hW => ?_)
  obtain ⟨hb26, hf⟩ := gd hf
  refine m_iast C hW hk23 hb26 dX11_line_457 (fun H locs hW => ?_)
  refine lv_aload_n C.1 C.2.1 dX11_line_458 rfl (lv_at hl 0 rfl) ?_
  refine m_getr C hW hx0 flX11_58 (by decide) dX11_line_459 (fun hk27 => ?_)
  refine lv_iload C.1 C.2.1 dX11_line_462 (lv_at hl 1 rfl) ?_
  refine lv_aload_n C.1 C.2.1 dX11_line_464 rfl (lv_at hl 0 rfl) ?_
  refine lv_iconst C.1 C.2.1 dX11_line_465 ic_1 ?_
  refine lv_bipush C.1 C.2.1 dX11_line_466 bp_99 ?_
  obtain ⟨q28, h29, hf⟩ := bd hf
  refine m_callV (As := [.int (1 : Int32), .int (99 : Int32)]) (rest := [.int x5, .ref (ad L (gR (pI q24.2 (gR S x0 17) x5.toNatClampNeg q24.1) x0 18))]) C hW hx0 (cX11_numeral_ok  hx0 h29) mlX11_249 (by decide) rfl hl.1 rfl (Nat.le_of_ble_eq_true rfl) (Nat.le_of_ble_eq_true rfl) (Nat.le_of_ble_eq_true rfl) dX11_line_468 (fun H locs hW => ?_)
  obtain ⟨hb30, hf⟩ := gd hf
  refine m_iast C hW hk27 hb30 dX11_line_471 (fun H locs hW => ?_)
  refine lv_aload_n C.1 C.2.1 dX11_line_472 rfl (lv_at hl 0 rfl) ?_
  refine lv_bipush C.1 C.2.1 dX11_line_473 bp_8 ?_
  refine lv_aload_n C.1 C.2.1 dX11_line_475 rfl (lv_at hl 0 rfl) ?_
  refine lv_bipush C.1 C.2.1 dX11_line_476 bp_8 ?_
  obtain ⟨q31, h32, hf⟩ := bd hf
  refine m_callV (As := [.int (8 : Int32)]) (rest := [.int (8 : Int32), .ref (ad L x0)]) C hW hx0 (cX11_fresher_ok  hx0 h32) mlX11_233 (by decide) rfl hl.1 rfl (Nat.le_of_ble_eq_true rfl) (Nat.le_of_ble_eq_true rfl) (Nat.le_of_ble_eq_true rfl) dX11_line_478 (fun H locs hW => ?_)
  refine lv_iconst C.1 C.2.1 dX11_line_481 ic_1 ?_
  refine lv_iadd C.1 C.2.1 dX11_line_482 ?_
  obtain ⟨q33, h34, hf⟩ := bd hf
  refine m_callV (As := [.int (8 : Int32), .int (q31 + (1 : Int32))]) (rest := []) C hW hx0 (cX11_reads_ok  hx0 h34) mlX11_253 (by decide) rfl hl.1 rfl (Nat.le_of_ble_eq_true rfl) (Nat.le_of_ble_eq_true rfl) (Nat.le_of_ble_eq_true rfl) dX11_line_483 (fun H locs hW => ?_)
  refine lv_goto (tgt := 596) C.1 C.2.1 dX11_line_486 rfl ?_
  exact kX11_line_596  C x0 _ _ _ _ hx0 hW (lv_sub hl [0] rfl) hf

set_option maxRecDepth 100000 in
theorem kX11_line_436 {p : Program} {l : Launch} {e : Env} {s : State} {m : MethodId} {av : Array Value} {below : List Frame} {meth : Method} {c : Code} {A : Nat → Prop} {G : Gv} {L : List Nat} {q : MS}  (C : mC p s m av meth c cX11_line RX11 7 none) : ∀ (x0 : Nat) (x5 : Int32) (S : MS) (H : Heap) (locs : List Loc) (ls : Array Slot), (x0 < shM.1 ∧ shM.2.1 x0 = 11) → mW G shM L S A s H locs → lv_has ls 7 [(0, .ref (ad L x0)), (5, .int x5)] → fX11_line_436  x0 x5 S = some q → W p l e (rmd (1074)) s m av below meth c H locs 0 0 (MQ below (mQ G shM L q none A) av s 0 0 A) (F0 m 436 ls []) := by
  intro x0 x5 S H locs ls hx0 hW hl hf
  unfold fX11_line_436 at hf
  refine lv_aload_n C.1 C.2.1 dX11_line_436 rfl (lv_at hl 0 rfl) ?_
  refine m_getr C hW hx0 flX11_52 (by decide) dX11_line_437 (fun hk35 => ?_)
  refine lv_iload C.1 C.2.1 dX11_line_440 (lv_at hl 1 rfl) ?_
  refine lv_aload_n C.1 C.2.1 dX11_line_442 rfl (lv_at hl 0 rfl) ?_
  obtain ⟨q36, h37, hf⟩ := bd hf
  refine m_callV (As := []) (rest := [.int x5, .ref (ad L (gR S x0 16))]) C hW hx0 (cX11_rowToken_ok  hx0 h37) mlX11_257 (by decide) rfl hl.1 rfl (Nat.le_of_ble_eq_true rfl) (Nat.le_of_ble_eq_true rfl) (Nat.le_of_ble_eq_true rfl) dX11_line_443 (fun H locs hW => ?_)
  obtain ⟨hb38, hf⟩ := gd hf
  refine m_iast C hW hk35 hb38 dX11_line_446 (fun H locs hW => ?_)
  exact kX11_line_447  C x0 x5 _ _ _ _ hx0 hW (lv_sub hl [0, 1] rfl) hf

set_option maxRecDepth 100000 in
theorem kX11_line_532 {p : Program} {l : Launch} {e : Env} {s : State} {m : MethodId} {av : Array Value} {below : List Frame} {meth : Method} {c : Code} {A : Nat → Prop} {G : Gv} {L : List Nat} {q : MS}  (C : mC p s m av meth c cX11_line RX11 7 none) : ∀ (x0 : Nat) (x6 : Int32) (S : MS) (H : Heap) (locs : List Loc) (ls : Array Slot), (x0 < shM.1 ∧ shM.2.1 x0 = 11) → mW G shM L S A s H locs → lv_has ls 7 [(0, .ref (ad L x0)), (6, .int x6)] → fX11_line_532  x0 x6 S = some q → W p l e (rmd (1074)) s m av below meth c H locs 0 0 (MQ below (mQ G shM L q none A) av s 0 0 A) (F0 m 532 ls []) := by
  intro x0 x6 S H locs ls hx0 hW hl hf
  unfold fX11_line_532 at hf
  refine lv_aload_n C.1 C.2.1 dX11_line_532 rfl (lv_at hl 0 rfl) ?_
  refine m_getr C hW hx0 flX11_67 (by decide) dX11_line_533 (fun hk39 => ?_)
  refine lv_iload C.1 C.2.1 dX11_line_536 (lv_at hl 1 rfl) ?_
  refine lv_aload_n C.1 C.2.1 dX11_line_538 rfl (lv_at hl 0 rfl) ?_
  obtain ⟨q40, h41, hf⟩ := bd hf
  refine m_callV (As := []) (rest := [.int x6, .ref (ad L (gR S x0 21))]) C hW hx0 (cX11_columnToken_ok  hx0 h41) mlX11_260 (by decide) rfl hl.1 rfl (Nat.le_of_ble_eq_true rfl) (Nat.le_of_ble_eq_true rfl) (Nat.le_of_ble_eq_true rfl) dX11_line_539 (fun H locs hW => ?_)
  obtain ⟨hb42, hf⟩ := gd hf
  refine m_iast C hW hk39 hb42 dX11_line_542 (fun H locs hW => ?_)
  refine lv_aload_n C.1 C.2.1 dX11_line_543 rfl (lv_at hl 0 rfl) ?_
  refine lv_bipush C.1 C.2.1 dX11_line_544 bp_9 ?_
  refine lv_aload_n C.1 C.2.1 dX11_line_546 rfl (lv_at hl 0 rfl) ?_
  refine lv_bipush C.1 C.2.1 dX11_line_547 bp_9 ?_
  obtain ⟨q43, h44, hf⟩ := bd hf
  refine m_callV (As := [.int (9 : Int32)]) (rest := [.int (9 : Int32), .ref (ad L x0)]) C hW hx0 (cX11_fresher_ok  hx0 h44) mlX11_233 (by decide) rfl hl.1 rfl (Nat.le_of_ble_eq_true rfl) (Nat.le_of_ble_eq_true rfl) (Nat.le_of_ble_eq_true rfl) dX11_line_549 (fun H locs hW => ?_)
  refine lv_iconst C.1 C.2.1 dX11_line_552 ic_1 ?_
  refine lv_iadd C.1 C.2.1 dX11_line_553 ?_
  obtain ⟨q45, h46, hf⟩ := bd hf
  refine m_callV (As := [.int (9 : Int32), .int (q43 + (1 : Int32))]) (rest := []) C hW hx0 (cX11_reads_ok  hx0 h46) mlX11_253 (by decide) rfl hl.1 rfl (Nat.le_of_ble_eq_true rfl) (Nat.le_of_ble_eq_true rfl) (Nat.le_of_ble_eq_true rfl) dX11_line_554 (fun H locs hW => ?_)
  refine lv_goto (tgt := 596) C.1 C.2.1 dX11_line_557 rfl ?_
  exact kX11_line_596  C x0 _ _ _ _ hx0 hW (lv_sub hl [0] rfl) hf

set_option maxRecDepth 100000 in
theorem kX11_line_114 {p : Program} {l : Launch} {e : Env} {s : State} {m : MethodId} {av : Array Value} {below : List Frame} {meth : Method} {c : Code} {A : Nat → Prop} {G : Gv} {L : List Nat} {q : MS}  (C : mC p s m av meth c cX11_line RX11 7 none) : ∀ (x0 : Nat) (x2 : Int32) (S : MS) (H : Heap) (locs : List Loc) (ls : Array Slot), (x0 < shM.1 ∧ shM.2.1 x0 = 11) → mW G shM L S A s H locs → lv_has ls 7 [(0, .ref (ad L x0)), (2, .int x2)] → fX11_line_114  x0 x2 S = some q → W p l e (rmd (1074)) s m av below meth c H locs 0 0 (MQ below (mQ G shM L q none A) av s 0 0 A) (F0 m 114 ls []) := by
  intro x0 x2 S H locs ls hx0 hW hl hf
  unfold fX11_line_114 at hf
  refine lv_aload_n C.1 C.2.1 dX11_line_114 rfl (lv_at hl 0 rfl) ?_
  refine m_geti C hW hx0 flX11_217 dX11_line_115 ?_
  refine lv_if_eq (tgt := 122) C.1 C.2.1 dX11_line_118 rfl (fun c47 => ?_) (fun c47 => ?_)
  · have hf := (if_pos c47).symm.trans hf
    refine lv_aload_n C.1 C.2.1 dX11_line_122 rfl (lv_at hl 0 rfl) ?_
    refine lv_dup C.1 C.2.1 dX11_line_123 rfl ?_
    refine m_geti C hW hx0 flX11_246 dX11_line_124 ?_
    refine lv_iconst C.1 C.2.1 dX11_line_127 ic_1 ?_
    refine lv_iload_n C.1 C.2.1 dX11_line_128 rfl (lv_at hl 1 rfl) ?_
    refine lv_ishl C.1 C.2.1 dX11_line_129 ?_
    refine lv_ior C.1 C.2.1 dX11_line_130 ?_
    refine m_puti C hW hx0 fpX11_246 dX11_line_131 (fun H locs hW => ?_)
    refine lv_aload_n C.1 C.2.1 dX11_line_134 rfl (lv_at hl 0 rfl) ?_
    obtain ⟨q48, h49, hf⟩ := bd hf
    refine m_callV (As := []) (rest := []) C hW hx0 (cX11_token_ok  hx0 h49) mlX11_223 (by decide) rfl hl.1 rfl (Nat.le_of_ble_eq_true rfl) (Nat.le_of_ble_eq_true rfl) (Nat.le_of_ble_eq_true rfl) dX11_line_135 (fun H locs hW => ?_)
    refine lv_iload_n C.1 C.2.1 dX11_line_138 rfl (lv_at hl 1 rfl) ?_
    by_cases c50 : x2 = (0 : Int32)
    · have hf := (if_pos c50).symm.trans hf
      refine lv_tableIn (tgt := 192) C.1 C.2.1 dX11_line_139 (by rw [c50]; decide) (by rw [c50]; decide) (by rw [c50]; rfl) rfl ?_
      refine lv_aload_n C.1 C.2.1 dX11_line_192 rfl (lv_at hl 0 rfl) ?_
      refine lv_iconst C.1 C.2.1 dX11_line_193 ic_0 ?_
      refine lv_aload_n C.1 C.2.1 dX11_line_194 rfl (lv_at hl 0 rfl) ?_
      refine lv_iconst C.1 C.2.1 dX11_line_195 ic_1 ?_
      refine lv_bipush C.1 C.2.1 dX11_line_196 bp_8 ?_
      obtain ⟨q51, h52, hf⟩ := bd hf
      refine m_callV (As := [.int (1 : Int32), .int (8 : Int32)]) (rest := [.int (0 : Int32), .ref (ad L x0)]) C hW hx0 (cX11_numeral_ok  hx0 h52) mlX11_249 (by decide) rfl hl.1 rfl (Nat.le_of_ble_eq_true rfl) (Nat.le_of_ble_eq_true rfl) (Nat.le_of_ble_eq_true rfl) dX11_line_198 (fun H locs hW => ?_)
      obtain ⟨q53, h54, hf⟩ := bd hf
      refine m_callV (As := [.int (0 : Int32), .int q51.1]) (rest := []) C hW hx0 (cX11_reads_ok  hx0 h54) mlX11_253 (by decide) rfl hl.1 rfl (Nat.le_of_ble_eq_true rfl) (Nat.le_of_ble_eq_true rfl) (Nat.le_of_ble_eq_true rfl) dX11_line_201 (fun H locs hW => ?_)
      refine lv_aload_n C.1 C.2.1 dX11_line_204 rfl (lv_at hl 0 rfl) ?_
      refine lv_iconst C.1 C.2.1 dX11_line_205 ic_1 ?_
      refine lv_aload_n C.1 C.2.1 dX11_line_206 rfl (lv_at hl 0 rfl) ?_
      refine lv_iconst C.1 C.2.1 dX11_line_207 ic_1 ?_
      refine lv_bipush C.1 C.2.1 dX11_line_208 bp_8 ?_
      obtain ⟨q55, h56, hf⟩ := bd hf
      refine m_callV (As := [.int (1 : Int32), .int (8 : Int32)]) (rest := [.int (1 : Int32), .ref (ad L x0)]) C hW hx0 (cX11_numeral_ok  hx0 h56) mlX11_249 (by decide) rfl hl.1 rfl (Nat.le_of_ble_eq_true rfl) (Nat.le_of_ble_eq_true rfl) (Nat.le_of_ble_eq_true rfl) dX11_line_210 (fun H locs hW => ?_)
      obtain ⟨q57, h58, hf⟩ := bd hf
      refine m_callV (As := [.int (1 : Int32), .int q55.1]) (rest := []) C hW hx0 (cX11_reads_ok  hx0 h58) mlX11_253 (by decide) rfl hl.1 rfl (Nat.le_of_ble_eq_true rfl) (Nat.le_of_ble_eq_true rfl) (Nat.le_of_ble_eq_true rfl) dX11_line_213 (fun H locs hW => ?_)
      refine lv_goto (tgt := 596) C.1 C.2.1 dX11_line_216 rfl ?_
      exact kX11_line_596  C x0 _ _ _ _ hx0 hW (lv_sub hl [0] rfl) hf
    have hf := (if_neg c50).symm.trans hf
    by_cases c59 : x2 = (1 : Int32)
    · have hf := (if_pos c59).symm.trans hf
      refine lv_tableIn (tgt := 219) C.1 C.2.1 dX11_line_139 (by rw [c59]; decide) (by rw [c59]; decide) (by rw [c59]; rfl) rfl ?_
      refine lv_aload_n C.1 C.2.1 dX11_line_219 rfl (lv_at hl 0 rfl) ?_
      refine lv_iconst C.1 C.2.1 dX11_line_220 ic_2 ?_
      refine lv_aload_n C.1 C.2.1 dX11_line_221 rfl (lv_at hl 0 rfl) ?_
      obtain ⟨q60, h61, hf⟩ := bd hf
      refine m_callV (As := []) (rest := [.int (2 : Int32), .ref (ad L x0)]) C hW hx0 (cX11_rowToken_ok  hx0 h61) mlX11_257 (by decide) rfl hl.1 rfl (Nat.le_of_ble_eq_true rfl) (Nat.le_of_ble_eq_true rfl) (Nat.le_of_ble_eq_true rfl) dX11_line_222 (fun H locs hW => ?_)
      obtain ⟨q62, h63, hf⟩ := bd hf
      refine m_callV (As := [.int (2 : Int32), .int q60.1]) (rest := []) C hW hx0 (cX11_reads_ok  hx0 h63) mlX11_253 (by decide) rfl hl.1 rfl (Nat.le_of_ble_eq_true rfl) (Nat.le_of_ble_eq_true rfl) (Nat.le_of_ble_eq_true rfl) dX11_line_225 (fun H locs hW => ?_)
      refine lv_aload_n C.1 C.2.1 dX11_line_228 rfl (lv_at hl 0 rfl) ?_
      refine lv_iconst C.1 C.2.1 dX11_line_229 ic_3 ?_
      refine lv_aload_n C.1 C.2.1 dX11_line_230 rfl (lv_at hl 0 rfl) ?_
      obtain ⟨q64, h65, hf⟩ := bd hf
      refine m_callV (As := []) (rest := [.int (3 : Int32), .ref (ad L x0)]) C hW hx0 (cX11_columnToken_ok  hx0 h65) mlX11_260 (by decide) rfl hl.1 rfl (Nat.le_of_ble_eq_true rfl) (Nat.le_of_ble_eq_true rfl) (Nat.le_of_ble_eq_true rfl) dX11_line_231 (fun H locs hW => ?_)
      obtain ⟨q66, h67, hf⟩ := bd hf
      refine m_callV (As := [.int (3 : Int32), .int q64.1]) (rest := []) C hW hx0 (cX11_reads_ok  hx0 h67) mlX11_253 (by decide) rfl hl.1 rfl (Nat.le_of_ble_eq_true rfl) (Nat.le_of_ble_eq_true rfl) (Nat.le_of_ble_eq_true rfl) dX11_line_234 (fun H locs hW => ?_)
      refine lv_goto (tgt := 596) C.1 C.2.1 dX11_line_237 rfl ?_
      exact kX11_line_596  C x0 _ _ _ _ hx0 hW (lv_sub hl [0] rfl) hf
    have hf := (if_neg c59).symm.trans hf
    by_cases c68 : x2 = (2 : Int32)
    · have hf := (if_pos c68).symm.trans hf
      refine lv_tableIn (tgt := 240) C.1 C.2.1 dX11_line_139 (by rw [c68]; decide) (by rw [c68]; decide) (by rw [c68]; rfl) rfl ?_
      refine lv_aload_n C.1 C.2.1 dX11_line_240 rfl (lv_at hl 0 rfl) ?_
      obtain ⟨q69, h70, hf⟩ := bd hf
      refine m_callV (As := []) (rest := []) C hW hx0 (cX11_wallLine_ok  hx0 h70) mlX11_263 (by decide) rfl hl.1 rfl (Nat.le_of_ble_eq_true rfl) (Nat.le_of_ble_eq_true rfl) (Nat.le_of_ble_eq_true rfl) dX11_line_241 (fun H locs hW => ?_)
      refine lv_goto (tgt := 596) C.1 C.2.1 dX11_line_244 rfl ?_
      exact kX11_line_596  C x0 _ _ _ _ hx0 hW (lv_sub hl [0] rfl) hf
    have hf := (if_neg c68).symm.trans hf
    by_cases c71 : x2 = (3 : Int32)
    · have hf := (if_pos c71).symm.trans hf
      refine lv_tableIn (tgt := 247) C.1 C.2.1 dX11_line_139 (by rw [c71]; decide) (by rw [c71]; decide) (by rw [c71]; rfl) rfl ?_
      refine lv_aload_n C.1 C.2.1 dX11_line_247 rfl (lv_at hl 0 rfl) ?_
      obtain ⟨q72, h73, hf⟩ := bd hf
      refine m_callV (As := []) (rest := []) C hW hx0 (cX11_sunLine_ok  hx0 h73) mlX11_266 (by decide) rfl hl.1 rfl (Nat.le_of_ble_eq_true rfl) (Nat.le_of_ble_eq_true rfl) (Nat.le_of_ble_eq_true rfl) dX11_line_248 (fun H locs hW => ?_)
      refine lv_goto (tgt := 596) C.1 C.2.1 dX11_line_251 rfl ?_
      exact kX11_line_596  C x0 _ _ _ _ hx0 hW (lv_sub hl [0] rfl) hf
    have hf := (if_neg c71).symm.trans hf
    by_cases c74 : x2 = (4 : Int32)
    · have hf := (if_pos c74).symm.trans hf
      refine lv_tableIn (tgt := 254) C.1 C.2.1 dX11_line_139 (by rw [c74]; decide) (by rw [c74]; decide) (by rw [c74]; rfl) rfl ?_
      refine lv_iconst C.1 C.2.1 dX11_line_254 ic_4 ?_
      refine lv_aload_n C.1 C.2.1 dX11_line_255 rfl (lv_at hl 0 rfl) ?_
      refine lv_bipush C.1 C.2.1 dX11_line_256 bp_6 ?_
      obtain ⟨q75, h76, hf⟩ := bd hf
      refine m_callV (As := [.int (6 : Int32)]) (rest := [.int (4 : Int32)]) C hW hx0 (cX11_fresher_ok  hx0 h76) mlX11_233 (by decide) rfl hl.1 rfl (Nat.le_of_ble_eq_true rfl) (Nat.le_of_ble_eq_true rfl) (Nat.le_of_ble_eq_true rfl) dX11_line_258 (fun H locs hW => ?_)
      refine lv_iadd C.1 C.2.1 dX11_line_261 ?_
      refine lv_istore_n (lv' := [(3, .int ((4 : Int32) + q75)), (0, .ref (ad L x0)), (2, .int x2)]) C.1 C.2.1 dX11_line_262 rfl hl (by decide) rfl (fun ls hl => ?_)
      refine lv_aload_n C.1 C.2.1 dX11_line_263 rfl (lv_at hl 1 rfl) ?_
      refine m_getr C hW hx0 flX11_28 (by decide) dX11_line_264 (fun hk77 => ?_)
      refine lv_iload_n C.1 C.2.1 dX11_line_267 rfl (lv_at hl 0 rfl) ?_
      refine lv_aload_n C.1 C.2.1 dX11_line_268 rfl (lv_at hl 1 rfl) ?_
      refine lv_aload_n C.1 C.2.1 dX11_line_269 rfl (lv_at hl 1 rfl) ?_
      refine m_getr C hW hx0 flX11_28 (by decide) dX11_line_270 (fun hk78 => ?_)
      refine lv_iconst C.1 C.2.1 dX11_line_273 ic_4 ?_
      refine lv_aload_n C.1 C.2.1 dX11_line_274 rfl (lv_at hl 1 rfl) ?_
      refine lv_bipush C.1 C.2.1 dX11_line_275 bp_6 ?_
      obtain ⟨q79, h80, hf⟩ := bd hf
      refine m_callV (As := [.int (6 : Int32)]) (rest := [.int (4 : Int32), .ref (ad L (gR q48 x0 8)), .ref (ad L x0), .int ((4 : Int32) + q75), .ref (ad L (gR q48 x0 8))]) C hW hx0 (cX11_fresher_ok  hx0 h80) mlX11_233 (by decide) rfl hl.1 rfl (Nat.le_of_ble_eq_true rfl) (Nat.le_of_ble_eq_true rfl) (Nat.le_of_ble_eq_true rfl) dX11_line_277 (fun H locs hW => ?_)
      obtain ⟨q81, h82, hf⟩ := bd hf
      refine m_callV (As := [.ref (ad L (gR q48 x0 8)), .int (4 : Int32), .int q79]) (rest := [.int ((4 : Int32) + q75), .ref (ad L (gR q48 x0 8))]) C hW hx0 (cX11_fresh_ok  hx0 hk78 h82) mlX11_269 (by decide) rfl hl.1 rfl (Nat.le_of_ble_eq_true rfl) (Nat.le_of_ble_eq_true rfl) (Nat.le_of_ble_eq_true rfl) dX11_line_280 (fun H locs hW => ?_)
      obtain ⟨hb83, hf⟩ := gd hf
      refine m_iast C hW hk77 hb83 dX11_line_283 (fun H locs hW => ?_)
      refine lv_aload_n C.1 C.2.1 dX11_line_284 rfl (lv_at hl 1 rfl) ?_
      refine m_getr C hW hx0 flX11_31 (by decide) dX11_line_285 (fun hk84 => ?_)
      refine lv_iload_n C.1 C.2.1 dX11_line_288 rfl (lv_at hl 0 rfl) ?_
      refine lv_aload_n C.1 C.2.1 dX11_line_289 rfl (lv_at hl 1 rfl) ?_
      obtain ⟨q85, h86, hf⟩ := bd hf
      refine m_callV (As := []) (rest := [.int ((4 : Int32) + q75), .ref (ad L (gR (pI q81.2 (gR q48 x0 8) (((4 : Int32) + q75).toNatClampNeg) q81.1) x0 9))]) C hW hx0 (cX11_rowToken_ok  hx0 h86) mlX11_257 (by decide) rfl hl.1 rfl (Nat.le_of_ble_eq_true rfl) (Nat.le_of_ble_eq_true rfl) (Nat.le_of_ble_eq_true rfl) dX11_line_290 (fun H locs hW => ?_)
      obtain ⟨hb87, hf⟩ := gd hf
      refine m_iast C hW hk84 hb87 dX11_line_293 (fun H locs hW => ?_)
      refine lv_aload_n C.1 C.2.1 dX11_line_294 rfl (lv_at hl 1 rfl) ?_
      refine m_getr C hW hx0 flX11_34 (by decide) dX11_line_295 (fun hk88 => ?_)
      refine lv_iload_n C.1 C.2.1 dX11_line_298 rfl (lv_at hl 0 rfl) ?_
      refine lv_aload_n C.1 C.2.1 dX11_line_299 rfl (lv_at hl 1 rfl) ?_
      obtain ⟨q89, h90, hf⟩ := bd hf
      refine m_callV (As := []) (rest := [.int ((4 : Int32) + q75), .ref (ad L (gR (pI q85.2 (gR (pI q81.2 (gR q48 x0 8) (((4 : Int32) + q75).toNatClampNeg) q81.1) x0 9) (((4 : Int32) + q75).toNatClampNeg) q85.1) x0 10))]) C hW hx0 (cX11_columnToken_ok  hx0 h90) mlX11_260 (by decide) rfl hl.1 rfl (Nat.le_of_ble_eq_true rfl) (Nat.le_of_ble_eq_true rfl) (Nat.le_of_ble_eq_true rfl) dX11_line_300 (fun H locs hW => ?_)
      obtain ⟨hb91, hf⟩ := gd hf
      refine m_iast C hW hk88 hb91 dX11_line_303 (fun H locs hW => ?_)
      exact kX11_line_304  C x0 ((4 : Int32) + q75) _ _ _ _ hx0 hW (lv_sub hl [1, 0] rfl) hf
    have hf := (if_neg c74).symm.trans hf
    by_cases c92 : x2 = (5 : Int32)
    · have hf := (if_pos c92).symm.trans hf
      refine lv_tableIn (tgt := 334) C.1 C.2.1 dX11_line_139 (by rw [c92]; decide) (by rw [c92]; decide) (by rw [c92]; rfl) rfl ?_
      refine lv_bipush C.1 C.2.1 dX11_line_334 bp_12 ?_
      refine lv_aload_n C.1 C.2.1 dX11_line_336 rfl (lv_at hl 0 rfl) ?_
      refine lv_bipush C.1 C.2.1 dX11_line_337 bp_7 ?_
      obtain ⟨q93, h94, hf⟩ := bd hf
      refine m_callV (As := [.int (7 : Int32)]) (rest := [.int (12 : Int32)]) C hW hx0 (cX11_fresher_ok  hx0 h94) mlX11_233 (by decide) rfl hl.1 rfl (Nat.le_of_ble_eq_true rfl) (Nat.le_of_ble_eq_true rfl) (Nat.le_of_ble_eq_true rfl) dX11_line_339 (fun H locs hW => ?_)
      refine lv_iadd C.1 C.2.1 dX11_line_342 ?_
      refine lv_istore (lv' := [(4, .int ((12 : Int32) + q93)), (0, .ref (ad L x0)), (2, .int x2)]) C.1 C.2.1 dX11_line_343 hl (by decide) rfl (fun ls hl => ?_)
      refine lv_aload_n C.1 C.2.1 dX11_line_345 rfl (lv_at hl 1 rfl) ?_
      refine m_getr C hW hx0 flX11_40 (by decide) dX11_line_346 (fun hk95 => ?_)
      refine lv_iload C.1 C.2.1 dX11_line_349 (lv_at hl 0 rfl) ?_
      refine lv_aload_n C.1 C.2.1 dX11_line_351 rfl (lv_at hl 1 rfl) ?_
      refine lv_iconst C.1 C.2.1 dX11_line_352 ic_0 ?_
      refine lv_bipush C.1 C.2.1 dX11_line_353 bp_99 ?_
      obtain ⟨q96, h97, hf⟩ := bd hf
      refine m_callV (As := [.int (0 : Int32), .int (99 : Int32)]) (rest := [.int ((12 : Int32) + q93), .ref (ad L (gR q48 x0 12))]) C hW hx0 (cX11_numeral_ok  hx0 h97) mlX11_249 (by decide) rfl hl.1 rfl (Nat.le_of_ble_eq_true rfl) (Nat.le_of_ble_eq_true rfl) (Nat.le_of_ble_eq_true rfl) dX11_line_355 (fun H locs hW => ?_)
      obtain ⟨hb98, hf⟩ := gd hf
      refine m_iast C hW hk95 hb98 dX11_line_358 (fun H locs hW => ?_)
      refine lv_aload_n C.1 C.2.1 dX11_line_359 rfl (lv_at hl 1 rfl) ?_
      refine m_getr C hW hx0 flX11_43 (by decide) dX11_line_360 (fun hk99 => ?_)
      refine lv_iload C.1 C.2.1 dX11_line_363 (lv_at hl 0 rfl) ?_
      refine lv_aload_n C.1 C.2.1 dX11_line_365 rfl (lv_at hl 1 rfl) ?_
      refine lv_iconst C.1 C.2.1 dX11_line_366 ic_0 ?_
      refine lv_iconst C.1 C.2.1 dX11_line_367 ic_3 ?_
      obtain ⟨q100, h101, hf⟩ := bd hf
      refine m_callV (As := [.int (0 : Int32), .int (3 : Int32)]) (rest := [.int ((12 : Int32) + q93), .ref (ad L (gR (pI q96.2 (gR q48 x0 12) (((12 : Int32) + q93).toNatClampNeg) q96.1) x0 13))]) C hW hx0 (cX11_numeral_ok  hx0 h101) mlX11_249 (by decide) rfl hl.1 rfl (Nat.le_of_ble_eq_true rfl) (Nat.le_of_ble_eq_true rfl) (Nat.le_of_ble_eq_true rfl) dX11_line_368 (fun H locs hW => ?_)
      obtain ⟨hb102, hf⟩ := gd hf
      refine m_iast C hW hk99 hb102 dX11_line_371 (fun H locs hW => ?_)
      exact kX11_line_372  C x0 _ _ _ _ hx0 hW (lv_sub hl [1] rfl) hf
    have hf := (if_neg c92).symm.trans hf
    by_cases c103 : x2 = (6 : Int32)
    · have hf := (if_pos c103).symm.trans hf
      refine lv_tableIn (tgt := 389) C.1 C.2.1 dX11_line_139 (by rw [c103]; decide) (by rw [c103]; decide) (by rw [c103]; rfl) rfl ?_
      refine lv_bipush C.1 C.2.1 dX11_line_389 bp_8 ?_
      refine lv_aload_n C.1 C.2.1 dX11_line_391 rfl (lv_at hl 0 rfl) ?_
      refine lv_bipush C.1 C.2.1 dX11_line_392 bp_8 ?_
      obtain ⟨q104, h105, hf⟩ := bd hf
      refine m_callV (As := [.int (8 : Int32)]) (rest := [.int (8 : Int32)]) C hW hx0 (cX11_fresher_ok  hx0 h105) mlX11_233 (by decide) rfl hl.1 rfl (Nat.le_of_ble_eq_true rfl) (Nat.le_of_ble_eq_true rfl) (Nat.le_of_ble_eq_true rfl) dX11_line_394 (fun H locs hW => ?_)
      refine lv_iadd C.1 C.2.1 dX11_line_397 ?_
      refine lv_istore (lv' := [(5, .int ((8 : Int32) + q104)), (0, .ref (ad L x0)), (2, .int x2)]) C.1 C.2.1 dX11_line_398 hl (by decide) rfl (fun ls hl => ?_)
      refine lv_aload_n C.1 C.2.1 dX11_line_400 rfl (lv_at hl 1 rfl) ?_
      refine m_getr C hW hx0 flX11_46 (by decide) dX11_line_401 (fun hk106 => ?_)
      refine lv_iload C.1 C.2.1 dX11_line_404 (lv_at hl 0 rfl) ?_
      refine lv_aload_n C.1 C.2.1 dX11_line_406 rfl (lv_at hl 1 rfl) ?_
      refine lv_aload_n C.1 C.2.1 dX11_line_407 rfl (lv_at hl 1 rfl) ?_
      refine m_getr C hW hx0 flX11_46 (by decide) dX11_line_408 (fun hk107 => ?_)
      refine lv_bipush C.1 C.2.1 dX11_line_411 bp_8 ?_
      refine lv_aload_n C.1 C.2.1 dX11_line_413 rfl (lv_at hl 1 rfl) ?_
      refine lv_bipush C.1 C.2.1 dX11_line_414 bp_8 ?_
      obtain ⟨q108, h109, hf⟩ := bd hf
      refine m_callV (As := [.int (8 : Int32)]) (rest := [.int (8 : Int32), .ref (ad L (gR q48 x0 14)), .ref (ad L x0), .int ((8 : Int32) + q104), .ref (ad L (gR q48 x0 14))]) C hW hx0 (cX11_fresher_ok  hx0 h109) mlX11_233 (by decide) rfl hl.1 rfl (Nat.le_of_ble_eq_true rfl) (Nat.le_of_ble_eq_true rfl) (Nat.le_of_ble_eq_true rfl) dX11_line_416 (fun H locs hW => ?_)
      obtain ⟨q110, h111, hf⟩ := bd hf
      refine m_callV (As := [.ref (ad L (gR q48 x0 14)), .int (8 : Int32), .int q108]) (rest := [.int ((8 : Int32) + q104), .ref (ad L (gR q48 x0 14))]) C hW hx0 (cX11_fresh_ok  hx0 hk107 h111) mlX11_269 (by decide) rfl hl.1 rfl (Nat.le_of_ble_eq_true rfl) (Nat.le_of_ble_eq_true rfl) (Nat.le_of_ble_eq_true rfl) dX11_line_419 (fun H locs hW => ?_)
      obtain ⟨hb112, hf⟩ := gd hf
      refine m_iast C hW hk106 hb112 dX11_line_422 (fun H locs hW => ?_)
      refine lv_aload_n C.1 C.2.1 dX11_line_423 rfl (lv_at hl 1 rfl) ?_
      refine m_getr C hW hx0 flX11_49 (by decide) dX11_line_424 (fun hk113 => ?_)
      refine lv_iload C.1 C.2.1 dX11_line_427 (lv_at hl 0 rfl) ?_
      refine lv_aload_n C.1 C.2.1 dX11_line_429 rfl (lv_at hl 1 rfl) ?_
      refine lv_iconst C.1 C.2.1 dX11_line_430 ic_0 ?_
      refine lv_iconst C.1 C.2.1 dX11_line_431 ic_1 ?_
      obtain ⟨q114, h115, hf⟩ := bd hf
      refine m_callV (As := [.int (0 : Int32), .int (1 : Int32)]) (rest := [.int ((8 : Int32) + q104), .ref (ad L (gR (pI q110.2 (gR q48 x0 14) (((8 : Int32) + q104).toNatClampNeg) q110.1) x0 15))]) C hW hx0 (cX11_numeral_ok  hx0 h115) mlX11_249 (by decide) rfl hl.1 rfl (Nat.le_of_ble_eq_true rfl) (Nat.le_of_ble_eq_true rfl) (Nat.le_of_ble_eq_true rfl) dX11_line_432 (fun H locs hW => ?_)
      obtain ⟨hb116, hf⟩ := gd hf
      refine m_iast C hW hk113 hb116 dX11_line_435 (fun H locs hW => ?_)
      exact kX11_line_436  C x0 ((8 : Int32) + q104) _ _ _ _ hx0 hW (lv_sub hl [1, 0] rfl) hf
    have hf := (if_neg c103).symm.trans hf
    by_cases c117 : x2 = (7 : Int32)
    · have hf := (if_pos c117).symm.trans hf
      refine lv_tableIn (tgt := 489) C.1 C.2.1 dX11_line_139 (by rw [c117]; decide) (by rw [c117]; decide) (by rw [c117]; rfl) rfl ?_
      refine lv_iconst C.1 C.2.1 dX11_line_489 ic_4 ?_
      refine lv_aload_n C.1 C.2.1 dX11_line_490 rfl (lv_at hl 0 rfl) ?_
      refine lv_bipush C.1 C.2.1 dX11_line_491 bp_9 ?_
      obtain ⟨q118, h119, hf⟩ := bd hf
      refine m_callV (As := [.int (9 : Int32)]) (rest := [.int (4 : Int32)]) C hW hx0 (cX11_fresher_ok  hx0 h119) mlX11_233 (by decide) rfl hl.1 rfl (Nat.le_of_ble_eq_true rfl) (Nat.le_of_ble_eq_true rfl) (Nat.le_of_ble_eq_true rfl) dX11_line_493 (fun H locs hW => ?_)
      refine lv_iadd C.1 C.2.1 dX11_line_496 ?_
      refine lv_istore (lv' := [(6, .int ((4 : Int32) + q118)), (0, .ref (ad L x0)), (2, .int x2)]) C.1 C.2.1 dX11_line_497 hl (by decide) rfl (fun ls hl => ?_)
      refine lv_aload_n C.1 C.2.1 dX11_line_499 rfl (lv_at hl 1 rfl) ?_
      refine m_getr C hW hx0 flX11_61 (by decide) dX11_line_500 (fun hk120 => ?_)
      refine lv_iload C.1 C.2.1 dX11_line_503 (lv_at hl 0 rfl) ?_
      refine lv_aload_n C.1 C.2.1 dX11_line_505 rfl (lv_at hl 1 rfl) ?_
      refine lv_aload_n C.1 C.2.1 dX11_line_506 rfl (lv_at hl 1 rfl) ?_
      refine m_getr C hW hx0 flX11_61 (by decide) dX11_line_507 (fun hk121 => ?_)
      refine lv_iconst C.1 C.2.1 dX11_line_510 ic_4 ?_
      refine lv_aload_n C.1 C.2.1 dX11_line_511 rfl (lv_at hl 1 rfl) ?_
      refine lv_bipush C.1 C.2.1 dX11_line_512 bp_9 ?_
      obtain ⟨q122, h123, hf⟩ := bd hf
      refine m_callV (As := [.int (9 : Int32)]) (rest := [.int (4 : Int32), .ref (ad L (gR q48 x0 19)), .ref (ad L x0), .int ((4 : Int32) + q118), .ref (ad L (gR q48 x0 19))]) C hW hx0 (cX11_fresher_ok  hx0 h123) mlX11_233 (by decide) rfl hl.1 rfl (Nat.le_of_ble_eq_true rfl) (Nat.le_of_ble_eq_true rfl) (Nat.le_of_ble_eq_true rfl) dX11_line_514 (fun H locs hW => ?_)
      obtain ⟨q124, h125, hf⟩ := bd hf
      refine m_callV (As := [.ref (ad L (gR q48 x0 19)), .int (4 : Int32), .int q122]) (rest := [.int ((4 : Int32) + q118), .ref (ad L (gR q48 x0 19))]) C hW hx0 (cX11_fresh_ok  hx0 hk121 h125) mlX11_269 (by decide) rfl hl.1 rfl (Nat.le_of_ble_eq_true rfl) (Nat.le_of_ble_eq_true rfl) (Nat.le_of_ble_eq_true rfl) dX11_line_517 (fun H locs hW => ?_)
      obtain ⟨hb126, hf⟩ := gd hf
      refine m_iast C hW hk120 hb126 dX11_line_520 (fun H locs hW => ?_)
      refine lv_aload_n C.1 C.2.1 dX11_line_521 rfl (lv_at hl 1 rfl) ?_
      refine m_getr C hW hx0 flX11_64 (by decide) dX11_line_522 (fun hk127 => ?_)
      refine lv_iload C.1 C.2.1 dX11_line_525 (lv_at hl 0 rfl) ?_
      refine lv_aload_n C.1 C.2.1 dX11_line_527 rfl (lv_at hl 1 rfl) ?_
      obtain ⟨q128, h129, hf⟩ := bd hf
      refine m_callV (As := []) (rest := [.int ((4 : Int32) + q118), .ref (ad L (gR (pI q124.2 (gR q48 x0 19) (((4 : Int32) + q118).toNatClampNeg) q124.1) x0 20))]) C hW hx0 (cX11_rowToken_ok  hx0 h129) mlX11_257 (by decide) rfl hl.1 rfl (Nat.le_of_ble_eq_true rfl) (Nat.le_of_ble_eq_true rfl) (Nat.le_of_ble_eq_true rfl) dX11_line_528 (fun H locs hW => ?_)
      obtain ⟨hb130, hf⟩ := gd hf
      refine m_iast C hW hk127 hb130 dX11_line_531 (fun H locs hW => ?_)
      exact kX11_line_532  C x0 ((4 : Int32) + q118) _ _ _ _ hx0 hW (lv_sub hl [1, 0] rfl) hf
    have hf := (if_neg c117).symm.trans hf
    by_cases c131 : x2 = (8 : Int32)
    · have hf := (if_pos c131).symm.trans hf
      refine lv_tableIn (tgt := 560) C.1 C.2.1 dX11_line_139 (by rw [c131]; decide) (by rw [c131]; decide) (by rw [c131]; rfl) rfl ?_
      refine lv_aload_n C.1 C.2.1 dX11_line_560 rfl (lv_at hl 0 rfl) ?_
      refine lv_bipush C.1 C.2.1 dX11_line_561 bp_10 ?_
      refine lv_aload_n C.1 C.2.1 dX11_line_563 rfl (lv_at hl 0 rfl) ?_
      refine lv_iconst C.1 C.2.1 dX11_line_564 ic_0 ?_
      refine lv_bipush C.1 C.2.1 dX11_line_565 bp_100 ?_
      obtain ⟨q132, h133, hf⟩ := bd hf
      refine m_callV (As := [.int (0 : Int32), .int (100 : Int32)]) (rest := [.int (10 : Int32), .ref (ad L x0)]) C hW hx0 (cX11_numeral_ok  hx0 h133) mlX11_249 (by decide) rfl hl.1 rfl (Nat.le_of_ble_eq_true rfl) (Nat.le_of_ble_eq_true rfl) (Nat.le_of_ble_eq_true rfl) dX11_line_567 (fun H locs hW => ?_)
      obtain ⟨q134, h135, hf⟩ := bd hf
      refine m_callV (As := [.int (10 : Int32), .int q132.1]) (rest := []) C hW hx0 (cX11_reads_ok  hx0 h135) mlX11_253 (by decide) rfl hl.1 rfl (Nat.le_of_ble_eq_true rfl) (Nat.le_of_ble_eq_true rfl) (Nat.le_of_ble_eq_true rfl) dX11_line_570 (fun H locs hW => ?_)
      refine lv_goto (tgt := 596) C.1 C.2.1 dX11_line_573 rfl ?_
      exact kX11_line_596  C x0 _ _ _ _ hx0 hW (lv_sub hl [0] rfl) hf
    have hf := (if_neg c131).symm.trans hf
    by_cases c136 : x2 = (9 : Int32)
    · have hf := (if_pos c136).symm.trans hf
      refine lv_tableIn (tgt := 576) C.1 C.2.1 dX11_line_139 (by rw [c136]; decide) (by rw [c136]; decide) (by rw [c136]; rfl) rfl ?_
      refine lv_aload_n C.1 C.2.1 dX11_line_576 rfl (lv_at hl 0 rfl) ?_
      refine lv_bipush C.1 C.2.1 dX11_line_577 bp_11 ?_
      refine lv_aload_n C.1 C.2.1 dX11_line_579 rfl (lv_at hl 0 rfl) ?_
      refine lv_iconst C.1 C.2.1 dX11_line_580 ic_0 ?_
      refine lv_ldc C.1 C.2.1 C.2.2.2.1 (C.2.2.2.2.1 _ kw_1634) dX11_line_581 ?_
      obtain ⟨q137, h138, hf⟩ := bd hf
      refine m_callV (As := [.int (0 : Int32), .int (99999 : Int32)]) (rest := [.int (11 : Int32), .ref (ad L x0)]) C hW hx0 (cX11_numeral_ok  hx0 h138) mlX11_249 (by decide) rfl hl.1 rfl (Nat.le_of_ble_eq_true rfl) (Nat.le_of_ble_eq_true rfl) (Nat.le_of_ble_eq_true rfl) dX11_line_583 (fun H locs hW => ?_)
      obtain ⟨q139, h140, hf⟩ := bd hf
      refine m_callV (As := [.int (11 : Int32), .int q137.1]) (rest := []) C hW hx0 (cX11_reads_ok  hx0 h140) mlX11_253 (by decide) rfl hl.1 rfl (Nat.le_of_ble_eq_true rfl) (Nat.le_of_ble_eq_true rfl) (Nat.le_of_ble_eq_true rfl) dX11_line_586 (fun H locs hW => ?_)
      refine lv_goto (tgt := 596) C.1 C.2.1 dX11_line_589 rfl ?_
      exact kX11_line_596  C x0 _ _ _ _ hx0 hW (lv_sub hl [0] rfl) hf
    have hf := (if_neg c136).symm.trans hf
    by_cases ho143 : x2.toInt < 0 ∨ 9 < x2.toInt
    · refine lv_tableOut (tgt := 592) C.1 C.2.1 dX11_line_139 ho143 rfl ?_
      refine lv_aload_n C.1 C.2.1 dX11_line_592 rfl (lv_at hl 0 rfl) ?_
      obtain ⟨q141, h142, hf⟩ := bd hf
      refine m_callV (As := []) (rest := []) C hW hx0 (cX11_lawLine_ok  hx0 h142) mlX11_273 (by decide) rfl hl.1 rfl (Nat.le_of_ble_eq_true rfl) (Nat.le_of_ble_eq_true rfl) (Nat.le_of_ble_eq_true rfl) dX11_line_593 (fun H locs hW => ?_)
      exact kX11_line_596  C x0 _ _ _ _ hx0 hW (lv_sub hl [0] rfl) hf
    · exfalso
      have := tn_e c50 (0) (by decide)
      have := tn_e c59 (1) (by decide)
      have := tn_e c68 (2) (by decide)
      have := tn_e c71 (3) (by decide)
      have := tn_e c74 (4) (by decide)
      have := tn_e c92 (5) (by decide)
      have := tn_e c103 (6) (by decide)
      have := tn_e c117 (7) (by decide)
      have := tn_e c131 (8) (by decide)
      have := tn_e c136 (9) (by decide)
      omega
  · have hf := (if_neg c47).symm.trans hf
    cases hf
    exact m_vret C hW dX11_line_121

set_option maxRecDepth 100000 in
theorem kX11_line_42 {p : Program} {l : Launch} {e : Env} {s : State} {m : MethodId} {av : Array Value} {below : List Frame} {meth : Method} {c : Code} {A : Nat → Prop} {G : Gv} {L : List Nat} {q : MS}  (C : mC p s m av meth c cX11_line RX11 7 none) : ∀ (x0 : Nat) (y0 : Int32) (S : MS) (H : Heap) (locs : List Loc) (ls : Array Slot), (x0 < shM.1 ∧ shM.2.1 x0 = 11) → mW G shM L S A s H locs → lv_has ls 7 [(0, .ref (ad L x0))] → fX11_line_42  x0 y0 S = some q → W p l e (rmd (1074)) s m av below meth c H locs 0 0 (MQ below (mQ G shM L q none A) av s 0 0 A) (F0 m 42 ls [.int y0]) := by
  intro x0 y0 S H locs ls hx0 hW hl hf
  unfold fX11_line_42 at hf
  refine lv_istore_n (lv' := [(1, .int y0), (0, .ref (ad L x0))]) C.1 C.2.1 dX11_line_42 rfl hl (by decide) rfl (fun ls hl => ?_)
  refine lv_aload_n C.1 C.2.1 dX11_line_43 rfl (lv_at hl 1 rfl) ?_
  refine m_geti C hW hx0 flX11_182 dX11_line_44 ?_
  refine lv_if_ne (tgt := 63) C.1 C.2.1 dX11_line_47 rfl (fun c144 => ?_) (fun c144 => ?_)
  · have hf := (if_neg c144).symm.trans hf
    exact kX11_line_63  C x0 _ _ _ _ hx0 hW (lv_sub hl [1] rfl) hf
  · have hf := (if_pos c144).symm.trans hf
    refine lv_aload_n C.1 C.2.1 dX11_line_50 rfl (lv_at hl 1 rfl) ?_
    refine m_geti C hW hx0 flX11_192 dX11_line_51 ?_
    refine lv_bipush C.1 C.2.1 dX11_line_54 bp_10 ?_
    refine lv_icmp_gt (tgt := 63) C.1 C.2.1 dX11_line_56 rfl (fun c145 => ?_) (fun c145 => ?_)
    · have hf := (if_pos c145).symm.trans hf
      exact kX11_line_63  C x0 _ _ _ _ hx0 hW (lv_sub hl [1] rfl) hf
    · have hf := (if_neg c145).symm.trans hf
      refine lv_iload_n C.1 C.2.1 dX11_line_59 rfl (lv_at hl 0 rfl) ?_
      refine lv_if_eq (tgt := 69) C.1 C.2.1 dX11_line_60 rfl (fun c146 => ?_) (fun c146 => ?_)
      · have hf := (if_pos c146).symm.trans hf
        refine lv_aload_n C.1 C.2.1 dX11_line_69 rfl (lv_at hl 1 rfl) ?_
        refine m_geti C hW hx0 flX11_192 dX11_line_70 ?_
        refine lv_istore_n (lv' := [(2, .int (gI S x0 33)), (1, .int y0), (0, .ref (ad L x0))]) C.1 C.2.1 dX11_line_73 rfl hl (by decide) rfl (fun ls hl => ?_)
        refine lv_aload_n C.1 C.2.1 dX11_line_74 rfl (lv_at hl 2 rfl) ?_
        refine lv_iload_n C.1 C.2.1 dX11_line_75 rfl (lv_at hl 0 rfl) ?_
        obtain ⟨q147, h148, hf⟩ := bd hf
        refine m_callV (As := [.int (gI S x0 33)]) (rest := []) C hW hx0 (cX11_isFull_ok  hx0 h148) mlX11_240 (by decide) rfl hl.1 rfl (Nat.le_of_ble_eq_true rfl) (Nat.le_of_ble_eq_true rfl) (Nat.le_of_ble_eq_true rfl) dX11_line_76 (fun H locs hW => ?_)
        refine lv_if_eq (tgt := 90) C.1 C.2.1 dX11_line_79 rfl (fun c149 => ?_) (fun c149 => ?_)
        · have hf := (if_pos c149).symm.trans hf
          refine lv_iload_n C.1 C.2.1 dX11_line_90 rfl (lv_at hl 0 rfl) ?_
          obtain ⟨q150, h151, hf⟩ := bd hf
          refine m_callS (As := [.int (gI S x0 33)]) (rest := []) C hW (cX11_isOnce_ok   h151) mlX11_243 rfl hl.1 rfl (Nat.le_of_ble_eq_true rfl) (Nat.le_of_ble_eq_true rfl) (Nat.le_of_ble_eq_true rfl) dX11_line_91 (fun H locs hW => ?_)
          refine lv_if_eq (tgt := 114) C.1 C.2.1 dX11_line_94 rfl (fun c152 => ?_) (fun c152 => ?_)
          · have hf := (if_pos c152).symm.trans hf
            exact kX11_line_114  C x0 (gI S x0 33) _ _ _ _ hx0 hW (lv_sub hl [2, 0] rfl) hf
          · have hf := (if_neg c152).symm.trans hf
            refine lv_aload_n C.1 C.2.1 dX11_line_97 rfl (lv_at hl 2 rfl) ?_
            refine m_geti C hW hx0 flX11_246 dX11_line_98 ?_
            refine lv_iload_n C.1 C.2.1 dX11_line_101 rfl (lv_at hl 0 rfl) ?_
            refine lv_ishr C.1 C.2.1 dX11_line_102 ?_
            refine lv_iconst C.1 C.2.1 dX11_line_103 ic_1 ?_
            refine lv_iand C.1 C.2.1 dX11_line_104 ?_
            refine lv_iconst C.1 C.2.1 dX11_line_105 ic_1 ?_
            refine lv_icmp_ne (tgt := 114) C.1 C.2.1 dX11_line_106 rfl (fun c153 => ?_) (fun c153 => ?_)
            · have hf := (if_neg c153).symm.trans hf
              exact kX11_line_114  C x0 (gI S x0 33) _ _ _ _ hx0 hW (lv_sub hl [2, 0] rfl) hf
            · have hf := (if_pos c153).symm.trans hf
              refine lv_aload_n C.1 C.2.1 dX11_line_109 rfl (lv_at hl 2 rfl) ?_
              refine lv_iconst C.1 C.2.1 dX11_line_110 ic_3 ?_
              obtain ⟨q154, h155, hf⟩ := bd hf
              refine m_callV (As := [.int (3 : Int32)]) (rest := []) C hW hx0 (cX11_wrong_ok  hx0 h155) mlX11_226 (by decide) rfl hl.1 rfl (Nat.le_of_ble_eq_true rfl) (Nat.le_of_ble_eq_true rfl) (Nat.le_of_ble_eq_true rfl) dX11_line_111 (fun H locs hW => ?_)
              exact kX11_line_114  C x0 (gI S x0 33) _ _ _ _ hx0 hW (lv_sub hl [2, 0] rfl) hf
        · have hf := (if_neg c149).symm.trans hf
          refine lv_aload_n C.1 C.2.1 dX11_line_82 rfl (lv_at hl 2 rfl) ?_
          refine lv_iconst C.1 C.2.1 dX11_line_83 ic_2 ?_
          obtain ⟨q156, h157, hf⟩ := bd hf
          refine m_callV (As := [.int (2 : Int32)]) (rest := []) C hW hx0 (cX11_wrong_ok  hx0 h157) mlX11_226 (by decide) rfl hl.1 rfl (Nat.le_of_ble_eq_true rfl) (Nat.le_of_ble_eq_true rfl) (Nat.le_of_ble_eq_true rfl) dX11_line_84 (fun H locs hW => ?_)
          refine lv_goto (tgt := 114) C.1 C.2.1 dX11_line_87 rfl ?_
          exact kX11_line_114  C x0 (gI S x0 33) _ _ _ _ hx0 hW (lv_sub hl [2, 0] rfl) hf
      · have hf := (if_neg c146).symm.trans hf
        exact kX11_line_63  C x0 _ _ _ _ hx0 hW (lv_sub hl [1] rfl) hf

set_option maxRecDepth 100000 in
theorem kX11_line_41 {p : Program} {l : Launch} {e : Env} {s : State} {m : MethodId} {av : Array Value} {below : List Frame} {meth : Method} {c : Code} {A : Nat → Prop} {G : Gv} {L : List Nat} {q : MS}  (C : mC p s m av meth c cX11_line RX11 7 none) : ∀ (x0 : Nat) (S : MS) (H : Heap) (locs : List Loc) (ls : Array Slot), (x0 < shM.1 ∧ shM.2.1 x0 = 11) → mW G shM L S A s H locs → lv_has ls 7 [(0, .ref (ad L x0))] → fX11_line_41  x0 S = some q → W p l e (rmd (1074)) s m av below meth c H locs 0 0 (MQ below (mQ G shM L q none A) av s 0 0 A) (F0 m 41 ls []) := by
  intro x0 S H locs ls hx0 hW hl hf
  unfold fX11_line_41 at hf
  refine lv_iconst C.1 C.2.1 dX11_line_41 ic_0 ?_
  exact kX11_line_42  C x0 (0 : Int32) _ _ _ _ hx0 hW (lv_sub hl [0] rfl) hf

set_option maxRecDepth 100000 in
theorem kX11_line_37 {p : Program} {l : Launch} {e : Env} {s : State} {m : MethodId} {av : Array Value} {below : List Frame} {meth : Method} {c : Code} {A : Nat → Prop} {G : Gv} {L : List Nat} {q : MS}  (C : mC p s m av meth c cX11_line RX11 7 none) : ∀ (x0 : Nat) (S : MS) (H : Heap) (locs : List Loc) (ls : Array Slot), (x0 < shM.1 ∧ shM.2.1 x0 = 11) → mW G shM L S A s H locs → lv_has ls 7 [(0, .ref (ad L x0))] → fX11_line_37  x0 S = some q → W p l e (rmd (1074)) s m av below meth c H locs 0 0 (MQ below (mQ G shM L q none A) av s 0 0 A) (F0 m 37 ls []) := by
  intro x0 S H locs ls hx0 hW hl hf
  unfold fX11_line_37 at hf
  refine lv_iconst C.1 C.2.1 dX11_line_37 ic_1 ?_
  refine lv_goto (tgt := 42) C.1 C.2.1 dX11_line_38 rfl ?_
  exact kX11_line_42  C x0 (1 : Int32) _ _ _ _ hx0 hW (lv_sub hl [0] rfl) hf

set_option maxRecDepth 100000 in
theorem kX11_line_21 {p : Program} {l : Launch} {e : Env} {s : State} {m : MethodId} {av : Array Value} {below : List Frame} {meth : Method} {c : Code} {A : Nat → Prop} {G : Gv} {L : List Nat} {q : MS}  (C : mC p s m av meth c cX11_line RX11 7 none) : ∀ (x0 : Nat) (S : MS) (H : Heap) (locs : List Loc) (ls : Array Slot), (x0 < shM.1 ∧ shM.2.1 x0 = 11) → mW G shM L S A s H locs → lv_has ls 7 [(0, .ref (ad L x0))] → fX11_line_21  x0 S = some q → W p l e (rmd (1074)) s m av below meth c H locs 0 0 (MQ below (mQ G shM L q none A) av s 0 0 A) (F0 m 21 ls []) := by
  intro x0 S H locs ls hx0 hW hl hf
  unfold fX11_line_21 at hf
  refine lv_aload_n C.1 C.2.1 dX11_line_21 rfl (lv_at hl 0 rfl) ?_
  refine m_geti C hW hx0 flX11_192 dX11_line_22 ?_
  refine lv_iconst C.1 C.2.1 dX11_line_25 ic_1 ?_
  refine lv_icmp_ne (tgt := 41) C.1 C.2.1 dX11_line_26 rfl (fun c158 => ?_) (fun c158 => ?_)
  · have hf := (if_neg c158).symm.trans hf
    exact kX11_line_41  C x0 _ _ _ _ hx0 hW (lv_sub hl [0] rfl) hf
  · have hf := (if_pos c158).symm.trans hf
    refine lv_aload_n C.1 C.2.1 dX11_line_29 rfl (lv_at hl 0 rfl) ?_
    refine lv_iconst C.1 C.2.1 dX11_line_30 ic_4 ?_
    obtain ⟨q159, h160, hf⟩ := bd hf
    refine m_callV (As := [.int (4 : Int32)]) (rest := []) C hW hx0 (cX11_fresher_ok  hx0 h160) mlX11_233 (by decide) rfl hl.1 rfl (Nat.le_of_ble_eq_true rfl) (Nat.le_of_ble_eq_true rfl) (Nat.le_of_ble_eq_true rfl) dX11_line_31 (fun H locs hW => ?_)
    refine lv_if_le (tgt := 41) C.1 C.2.1 dX11_line_34 rfl (fun c161 => ?_) (fun c161 => ?_)
    · have hf := (if_pos c161).symm.trans hf
      exact kX11_line_41  C x0 _ _ _ _ hx0 hW (lv_sub hl [0] rfl) hf
    · have hf := (if_neg c161).symm.trans hf
      exact kX11_line_37  C x0 _ _ _ _ hx0 hW (lv_sub hl [0] rfl) hf

set_option maxRecDepth 100000 in
theorem cX11_line_ok {l : Launch} {G : Gv} {L : List Nat} {S : MS} {a0 : Nat} {q : MS} (ha0 : a0 < shM.1 ∧ shM.2.1 a0 = 11) (hf : fX11_line a0 S = some q) : Mt l yX11_line cX11_line 7 none (1074) G shM L S [.ref (ad L a0)] none q := by
  refine m_enter (lv := [(0, .ref (ad L a0))]) (plainFor_of_name (by decide)) (Nat.le_of_ble_eq_true rfl) rfl ?_
  intro p e s m below meth c A ls C hW hl
  unfold fX11_line at hf
  refine lv_aload_n C.1 C.2.1 dX11_line_0 rfl (lv_at hl 0 rfl) ?_
  refine m_geti C hW ha0 flX11_182 dX11_line_1 ?_
  refine lv_if_ne (tgt := 41) C.1 C.2.1 dX11_line_4 rfl (fun c162 => ?_) (fun c162 => ?_)
  · have hf := (if_neg c162).symm.trans hf
    exact kX11_line_41  C a0 _ _ _ _ ha0 hW (lv_sub hl [0] rfl) hf
  · have hf := (if_pos c162).symm.trans hf
    refine lv_aload_n C.1 C.2.1 dX11_line_7 rfl (lv_at hl 0 rfl) ?_
    refine m_geti C hW ha0 flX11_192 dX11_line_8 ?_
    refine lv_if_ne (tgt := 21) C.1 C.2.1 dX11_line_11 rfl (fun c163 => ?_) (fun c163 => ?_)
    · have hf := (if_neg c163).symm.trans hf
      exact kX11_line_21  C a0 _ _ _ _ ha0 hW (lv_sub hl [0] rfl) hf
    · have hf := (if_pos c163).symm.trans hf
      refine lv_aload_n C.1 C.2.1 dX11_line_14 rfl (lv_at hl 0 rfl) ?_
      refine m_geti C hW ha0 flX11_237 dX11_line_15 ?_
      refine lv_if_gt (tgt := 37) C.1 C.2.1 dX11_line_18 rfl (fun c164 => ?_) (fun c164 => ?_)
      · have hf := (if_pos c164).symm.trans hf
        exact kX11_line_37  C a0 _ _ _ _ ha0 hW (lv_sub hl [0] rfl) hf
      · have hf := (if_neg c164).symm.trans hf
        exact kX11_line_21  C a0 _ _ _ _ ha0 hW (lv_sub hl [0] rfl) hf

def fX11_text_153  (x0 : Nat) (S : MS) : Option (Int32 × MS) := (if gI (pI (pI S x0 36 (gI S x0 34)) x0 37 (gI (pI S x0 36 (gI S x0 34)) x0 35)) x0 34 = (0 : Int32) then (fX11_half  (gR (pI (pI S x0 36 (gI S x0 34)) x0 37 (gI (pI S x0 36 (gI S x0 34)) x0 35)) x0 3) (pI (pI S x0 36 (gI S x0 34)) x0 37 (gI (pI S x0 36 (gI S x0 34)) x0 35))).bind fun q3 => (fX11_half  (gR q3 x0 4) q3).bind fun q6 => (fX11_half  (gR q6 x0 5) q6).bind fun q9 => (fX11_half  (gR q9 x0 6) q9).bind fun q12 => (fX11_half  (gR q12 x0 7) q12).bind fun q15 => (fX11_half  (gR q15 x0 8) q15).bind fun q18 => (fX11_half  (gR q18 x0 9) q18).bind fun q21 => (fX11_half  (gR q21 x0 10) q21).bind fun q24 => (fX11_half  (gR q24 x0 11) q24).bind fun q27 => (fX11_half  (gR q27 x0 12) q27).bind fun q30 => (fX11_half  (gR q30 x0 13) q30).bind fun q33 => (fX11_half  (gR q33 x0 14) q33).bind fun q36 => (fX11_half  (gR q36 x0 15) q36).bind fun q39 => (fX11_half  (gR q39 x0 16) q39).bind fun q42 => (fX11_half  (gR q42 x0 17) q42).bind fun q45 => (fX11_half  (gR q45 x0 18) q45).bind fun q48 => (fX11_half  (gR q48 x0 19) q48).bind fun q51 => (fX11_half  (gR q51 x0 20) q51).bind fun q54 => (fX11_half  (gR q54 x0 21) q54).bind fun q57 => (fX11_half  (gR q57 x0 22) q57).bind fun q60 => (fX11_half  (gR q60 x0 23) q60).bind fun q63 => (fX11_half  (gR q63 x0 24) q63).bind fun q66 => (fX11_half  (gR q66 x0 25) q66).bind fun q69 => (fX11_begins  x0 (pI (pI (pI (pI q69 x0 66 (0 : Int32)) x0 67 (-1 : Int32)) x0 55 (0 : Int32)) x0 56 (0 : Int32))).bind fun q71 => some (gI q71 x0 28, q71) else some ((-1 : Int32), pI (pI S x0 36 (gI S x0 34)) x0 37 (gI (pI S x0 36 (gI S x0 34)) x0 35)))
def fX11_text_131  : Nat → Nat → MS → Option (Int32 × MS)
  | 0, _, _ => none
  | n + 1, x0, S => (if gI S x0 34 = (0 : Int32) then (if gI S x0 32 = (4 : Int32) then fX11_text_153  x0 S else (fX11_line  x0 S).bind fun q75 => (fX11_text_131  n) x0 q75) else fX11_text_153  x0 S)
def fX11_text_96 (K76 : Nat → Int32 → MS → Option (Int32 × MS)) (x0 : Nat) (x2 : Int32) (S : MS) : Option (Int32 × MS) := K76 x0 (x2 + (1 : Int32)) S
def fX11_text_76  : Nat → Nat → Int32 → MS → Option (Int32 × MS)
  | 0, _, _, _ => none
  | n + 1, x0, x2, S => (if (6 : Int32) ≤ x2 then (fX11_token  x0 (pI (pI (pI (pI (pI S x0 27 (0 : Int32)) x0 26 (0 : Int32)) x0 28 (0 : Int32)) x0 38 (0 : Int32)) x0 39 (0 : Int32))).bind fun q78 => fX11_text_131  1000 x0 q78 else (if bnd x2 (lnM (gR S x0 22)) = true then (if bnd x2 (lnM (gR (pI S (gR S x0 22) x2.toNatClampNeg (0 : Int32)) x0 23)) = true then fX11_text_96 (fX11_text_76  n) x0 x2 (pI (pI S (gR S x0 22) x2.toNatClampNeg (0 : Int32)) (gR (pI S (gR S x0 22) x2.toNatClampNeg (0 : Int32)) x0 23) x2.toNatClampNeg (0 : Int32)) else none) else none))
def fX11_text_65 (K47 : Nat → Int32 → MS → Option (Int32 × MS)) (x0 : Nat) (x2 : Int32) (y0 : Nat) (y1 : Int32) (y2 : Int32) (S : MS) : Option (Int32 × MS) := (fX11_reads  y0 y1 y2 S).bind fun q84 => K47 x0 (x2 + (1 : Int32)) q84
def fX11_text_47  : Nat → Nat → Int32 → MS → Option (Int32 × MS)
  | 0, _, _, _ => none
  | n + 1, x0, x2, S => (if (13 : Int32) ≤ x2 then fX11_text_76  1000 x0 (3 : Int32) S else (if (1 : Int32) < x2 then fX11_text_65 (fX11_text_47  n) x0 x2 x0 x2 (0 : Int32) S else fX11_text_65 (fX11_text_47  n) x0 x2 x0 x2 (5 : Int32) S))
def fX11_text (a0 : Nat) (a1 : Int32) (S : MS) : Option (Int32 × MS) := (if a1 < (0 : Int32) then some ((-2 : Int32), pI S a0 0 (0 : Int32)) else (if a1 ≤ (gI (pI S a0 0 (0 : Int32)) a0 2) then fX11_text_47  1000 a0 (0 : Int32) (pI (pI (pI (pI (pI (pI S a0 0 (0 : Int32)) a0 29 a1) a0 2 (0 : Int32)) a0 30 (0 : Int32)) a0 34 (0 : Int32)) a0 35 (-1 : Int32)) else some ((-2 : Int32), pI S a0 0 (0 : Int32))))
set_option maxRecDepth 100000 in
theorem kX11_text_153 {p : Program} {l : Launch} {e : Env} {s : State} {m : MethodId} {av : Array Value} {below : List Frame} {meth : Method} {c : Code} {A : Nat → Prop} {G : Gv} {L : List Nat} {q : (Int32 × MS)}  (C : mC p s m av meth c cX11_text RX11 3 (some .int)) : ∀ (x0 : Nat) (S : MS) (H : Heap) (locs : List Loc) (ls : Array Slot), (x0 < shM.1 ∧ shM.2.1 x0 = 11) → mW G shM L S A s H locs → lv_has ls 3 [(0, .ref (ad L x0))] → fX11_text_153  x0 S = some q → W p l e (rmd (1075)) s m av below meth c H locs 0 0 (MQ below (mQ G shM L q.2 (some (.int q.1)) A) av s 0 0 A) (F0 m 153 ls []) := by
  intro x0 S H locs ls hx0 hW hl hf
  unfold fX11_text_153 at hf
  refine lv_aload_n C.1 C.2.1 dX11_text_153 rfl (lv_at hl 0 rfl) ?_
  refine lv_aload_n C.1 C.2.1 dX11_text_154 rfl (lv_at hl 0 rfl) ?_
  refine m_geti C hW hx0 flX11_217 dX11_text_155 ?_
  refine m_puti C hW hx0 fpX11_321 dX11_text_158 (fun H locs hW => ?_)
  refine lv_aload_n C.1 C.2.1 dX11_text_161 rfl (lv_at hl 0 rfl) ?_
  refine lv_aload_n C.1 C.2.1 dX11_text_162 rfl (lv_at hl 0 rfl) ?_
  refine m_geti C hW hx0 flX11_220 dX11_text_163 ?_
  refine m_puti C hW hx0 fpX11_82 dX11_text_166 (fun H locs hW => ?_)
  refine lv_aload_n C.1 C.2.1 dX11_text_169 rfl (lv_at hl 0 rfl) ?_
  refine m_geti C hW hx0 flX11_217 dX11_text_170 ?_
  refine lv_if_eq (tgt := 178) C.1 C.2.1 dX11_text_173 rfl (fun c1 => ?_) (fun c1 => ?_)
  · have hf := (if_pos c1).symm.trans hf
    refine lv_aload_n C.1 C.2.1 dX11_text_178 rfl (lv_at hl 0 rfl) ?_
    refine m_getr C hW hx0 flX11_13 (by decide) dX11_text_179 (fun hk2 => ?_)
    obtain ⟨q3, h4, hf⟩ := bd hf
    refine m_callS (As := [.ref (ad L (gR (pI (pI S x0 36 (gI S x0 34)) x0 37 (gI (pI S x0 36 (gI S x0 34)) x0 35)) x0 3))]) (rest := []) C hW (cX11_half_ok  hk2 h4) mlX11_324 rfl hl.1 rfl (Nat.le_of_ble_eq_true rfl) (Nat.le_of_ble_eq_true rfl) (Nat.le_of_ble_eq_true rfl) dX11_text_182 (fun H locs hW => ?_)
    refine lv_aload_n C.1 C.2.1 dX11_text_185 rfl (lv_at hl 0 rfl) ?_
    refine m_getr C hW hx0 flX11_16 (by decide) dX11_text_186 (fun hk5 => ?_)
    obtain ⟨q6, h7, hf⟩ := bd hf
    refine m_callS (As := [.ref (ad L (gR q3 x0 4))]) (rest := []) C hW (cX11_half_ok  hk5 h7) mlX11_324 rfl hl.1 rfl (Nat.le_of_ble_eq_true rfl) (Nat.le_of_ble_eq_true rfl) (Nat.le_of_ble_eq_true rfl) dX11_text_189 (fun H locs hW => ?_)
    refine lv_aload_n C.1 C.2.1 dX11_text_192 rfl (lv_at hl 0 rfl) ?_
    refine m_getr C hW hx0 flX11_19 (by decide) dX11_text_193 (fun hk8 => ?_)
    obtain ⟨q9, h10, hf⟩ := bd hf
    refine m_callS (As := [.ref (ad L (gR q6 x0 5))]) (rest := []) C hW (cX11_half_ok  hk8 h10) mlX11_324 rfl hl.1 rfl (Nat.le_of_ble_eq_true rfl) (Nat.le_of_ble_eq_true rfl) (Nat.le_of_ble_eq_true rfl) dX11_text_196 (fun H locs hW => ?_)
    refine lv_aload_n C.1 C.2.1 dX11_text_199 rfl (lv_at hl 0 rfl) ?_
    refine m_getr C hW hx0 flX11_22 (by decide) dX11_text_200 (fun hk11 => ?_)
    obtain ⟨q12, h13, hf⟩ := bd hf
    refine m_callS (As := [.ref (ad L (gR q9 x0 6))]) (rest := []) C hW (cX11_half_ok  hk11 h13) mlX11_324 rfl hl.1 rfl (Nat.le_of_ble_eq_true rfl) (Nat.le_of_ble_eq_true rfl) (Nat.le_of_ble_eq_true rfl) dX11_text_203 (fun H locs hW => ?_)
    refine lv_aload_n C.1 C.2.1 dX11_text_206 rfl (lv_at hl 0 rfl) ?_
    refine m_getr C hW hx0 flX11_25 (by decide) dX11_text_207 (fun hk14 => ?_)
    obtain ⟨q15, h16, hf⟩ := bd hf
    refine m_callS (As := [.ref (ad L (gR q12 x0 7))]) (rest := []) C hW (cX11_half_ok  hk14 h16) mlX11_324 rfl hl.1 rfl (Nat.le_of_ble_eq_true rfl) (Nat.le_of_ble_eq_true rfl) (Nat.le_of_ble_eq_true rfl) dX11_text_210 (fun H locs hW => ?_)
    refine lv_aload_n C.1 C.2.1 dX11_text_213 rfl (lv_at hl 0 rfl) ?_
    refine m_getr C hW hx0 flX11_28 (by decide) dX11_text_214 (fun hk17 => ?_)
    obtain ⟨q18, h19, hf⟩ := bd hf
    refine m_callS (As := [.ref (ad L (gR q15 x0 8))]) (rest := []) C hW (cX11_half_ok  hk17 h19) mlX11_324 rfl hl.1 rfl (Nat.le_of_ble_eq_true rfl) (Nat.le_of_ble_eq_true rfl) (Nat.le_of_ble_eq_true rfl) dX11_text_217 (fun H locs hW => ?_)
    refine lv_aload_n C.1 C.2.1 dX11_text_220 rfl (lv_at hl 0 rfl) ?_
    refine m_getr C hW hx0 flX11_31 (by decide) dX11_text_221 (fun hk20 => ?_)
    obtain ⟨q21, h22, hf⟩ := bd hf
    refine m_callS (As := [.ref (ad L (gR q18 x0 9))]) (rest := []) C hW (cX11_half_ok  hk20 h22) mlX11_324 rfl hl.1 rfl (Nat.le_of_ble_eq_true rfl) (Nat.le_of_ble_eq_true rfl) (Nat.le_of_ble_eq_true rfl) dX11_text_224 (fun H locs hW => ?_)
    refine lv_aload_n C.1 C.2.1 dX11_text_227 rfl (lv_at hl 0 rfl) ?_
    refine m_getr C hW hx0 flX11_34 (by decide) dX11_text_228 (fun hk23 => ?_)
    obtain ⟨q24, h25, hf⟩ := bd hf
    refine m_callS (As := [.ref (ad L (gR q21 x0 10))]) (rest := []) C hW (cX11_half_ok  hk23 h25) mlX11_324 rfl hl.1 rfl (Nat.le_of_ble_eq_true rfl) (Nat.le_of_ble_eq_true rfl) (Nat.le_of_ble_eq_true rfl) dX11_text_231 (fun H locs hW => ?_)
    refine lv_aload_n C.1 C.2.1 dX11_text_234 rfl (lv_at hl 0 rfl) ?_
    refine m_getr C hW hx0 flX11_37 (by decide) dX11_text_235 (fun hk26 => ?_)
    obtain ⟨q27, h28, hf⟩ := bd hf
    refine m_callS (As := [.ref (ad L (gR q24 x0 11))]) (rest := []) C hW (cX11_half_ok  hk26 h28) mlX11_324 rfl hl.1 rfl (Nat.le_of_ble_eq_true rfl) (Nat.le_of_ble_eq_true rfl) (Nat.le_of_ble_eq_true rfl) dX11_text_238 (fun H locs hW => ?_)
    refine lv_aload_n C.1 C.2.1 dX11_text_241 rfl (lv_at hl 0 rfl) ?_
    refine m_getr C hW hx0 flX11_40 (by decide) dX11_text_242 (fun hk29 => ?_)
    obtain ⟨q30, h31, hf⟩ := bd hf
    refine m_callS (As := [.ref (ad L (gR q27 x0 12))]) (rest := []) C hW (cX11_half_ok  hk29 h31) mlX11_324 rfl hl.1 rfl (Nat.le_of_ble_eq_true rfl) (Nat.le_of_ble_eq_true rfl) (Nat.le_of_ble_eq_true rfl) dX11_text_245 (fun H locs hW => ?_)
    refine lv_aload_n C.1 C.2.1 dX11_text_248 rfl (lv_at hl 0 rfl) ?_
    refine m_getr C hW hx0 flX11_43 (by decide) dX11_text_249 (fun hk32 => ?_)
    obtain ⟨q33, h34, hf⟩ := bd hf
    refine m_callS (As := [.ref (ad L (gR q30 x0 13))]) (rest := []) C hW (cX11_half_ok  hk32 h34) mlX11_324 rfl hl.1 rfl (Nat.le_of_ble_eq_true rfl) (Nat.le_of_ble_eq_true rfl) (Nat.le_of_ble_eq_true rfl) dX11_text_252 (fun H locs hW => ?_)
    refine lv_aload_n C.1 C.2.1 dX11_text_255 rfl (lv_at hl 0 rfl) ?_
    refine m_getr C hW hx0 flX11_46 (by decide) dX11_text_256 (fun hk35 => ?_)
    obtain ⟨q36, h37, hf⟩ := bd hf
    refine m_callS (As := [.ref (ad L (gR q33 x0 14))]) (rest := []) C hW (cX11_half_ok  hk35 h37) mlX11_324 rfl hl.1 rfl (Nat.le_of_ble_eq_true rfl) (Nat.le_of_ble_eq_true rfl) (Nat.le_of_ble_eq_true rfl) dX11_text_259 (fun H locs hW => ?_)
    refine lv_aload_n C.1 C.2.1 dX11_text_262 rfl (lv_at hl 0 rfl) ?_
    refine m_getr C hW hx0 flX11_49 (by decide) dX11_text_263 (fun hk38 => ?_)
    obtain ⟨q39, h40, hf⟩ := bd hf
    refine m_callS (As := [.ref (ad L (gR q36 x0 15))]) (rest := []) C hW (cX11_half_ok  hk38 h40) mlX11_324 rfl hl.1 rfl (Nat.le_of_ble_eq_true rfl) (Nat.le_of_ble_eq_true rfl) (Nat.le_of_ble_eq_true rfl) dX11_text_266 (fun H locs hW => ?_)
    refine lv_aload_n C.1 C.2.1 dX11_text_269 rfl (lv_at hl 0 rfl) ?_
    refine m_getr C hW hx0 flX11_52 (by decide) dX11_text_270 (fun hk41 => ?_)
    obtain ⟨q42, h43, hf⟩ := bd hf
    refine m_callS (As := [.ref (ad L (gR q39 x0 16))]) (rest := []) C hW (cX11_half_ok  hk41 h43) mlX11_324 rfl hl.1 rfl (Nat.le_of_ble_eq_true rfl) (Nat.le_of_ble_eq_true rfl) (Nat.le_of_ble_eq_true rfl) dX11_text_273 (fun H locs hW => ?_)
    refine lv_aload_n C.1 C.2.1 dX11_text_276 rfl (lv_at hl 0 rfl) ?_
    refine m_getr C hW hx0 flX11_55 (by decide) dX11_text_277 (fun hk44 => ?_)
    obtain ⟨q45, h46, hf⟩ := bd hf
    refine m_callS (As := [.ref (ad L (gR q42 x0 17))]) (rest := []) C hW (cX11_half_ok  hk44 h46) mlX11_324 rfl hl.1 rfl (Nat.le_of_ble_eq_true rfl) (Nat.le_of_ble_eq_true rfl) (Nat.le_of_ble_eq_true rfl) dX11_text_280 (fun H locs hW => ?_)
    refine lv_aload_n C.1 C.2.1 dX11_text_283 rfl (lv_at hl 0 rfl) ?_
    refine m_getr C hW hx0 flX11_58 (by decide) dX11_text_284 (fun hk47 => ?_)
    obtain ⟨q48, h49, hf⟩ := bd hf
    refine m_callS (As := [.ref (ad L (gR q45 x0 18))]) (rest := []) C hW (cX11_half_ok  hk47 h49) mlX11_324 rfl hl.1 rfl (Nat.le_of_ble_eq_true rfl) (Nat.le_of_ble_eq_true rfl) (Nat.le_of_ble_eq_true rfl) dX11_text_287 (fun H locs hW => ?_)
    refine lv_aload_n C.1 C.2.1 dX11_text_290 rfl (lv_at hl 0 rfl) ?_
    refine m_getr C hW hx0 flX11_61 (by decide) dX11_text_291 (fun hk50 => ?_)
    obtain ⟨q51, h52, hf⟩ := bd hf
    refine m_callS (As := [.ref (ad L (gR q48 x0 19))]) (rest := []) C hW (cX11_half_ok  hk50 h52) mlX11_324 rfl hl.1 rfl (Nat.le_of_ble_eq_true rfl) (Nat.le_of_ble_eq_true rfl) (Nat.le_of_ble_eq_true rfl) dX11_text_294 (fun H locs hW => ?_)
    refine lv_aload_n C.1 C.2.1 dX11_text_297 rfl (lv_at hl 0 rfl) ?_
    refine m_getr C hW hx0 flX11_64 (by decide) dX11_text_298 (fun hk53 => ?_)
    obtain ⟨q54, h55, hf⟩ := bd hf
    refine m_callS (As := [.ref (ad L (gR q51 x0 20))]) (rest := []) C hW (cX11_half_ok  hk53 h55) mlX11_324 rfl hl.1 rfl (Nat.le_of_ble_eq_true rfl) (Nat.le_of_ble_eq_true rfl) (Nat.le_of_ble_eq_true rfl) dX11_text_301 (fun H locs hW => ?_)
    refine lv_aload_n C.1 C.2.1 dX11_text_304 rfl (lv_at hl 0 rfl) ?_
    refine m_getr C hW hx0 flX11_67 (by decide) dX11_text_305 (fun hk56 => ?_)
    obtain ⟨q57, h58, hf⟩ := bd hf
    refine m_callS (As := [.ref (ad L (gR q54 x0 21))]) (rest := []) C hW (cX11_half_ok  hk56 h58) mlX11_324 rfl hl.1 rfl (Nat.le_of_ble_eq_true rfl) (Nat.le_of_ble_eq_true rfl) (Nat.le_of_ble_eq_true rfl) dX11_text_308 (fun H locs hW => ?_)
    refine lv_aload_n C.1 C.2.1 dX11_text_311 rfl (lv_at hl 0 rfl) ?_
    refine m_getr C hW hx0 flX11_70 (by decide) dX11_text_312 (fun hk59 => ?_)
    obtain ⟨q60, h61, hf⟩ := bd hf
    refine m_callS (As := [.ref (ad L (gR q57 x0 22))]) (rest := []) C hW (cX11_half_ok  hk59 h61) mlX11_324 rfl hl.1 rfl (Nat.le_of_ble_eq_true rfl) (Nat.le_of_ble_eq_true rfl) (Nat.le_of_ble_eq_true rfl) dX11_text_315 (fun H locs hW => ?_)
    refine lv_aload_n C.1 C.2.1 dX11_text_318 rfl (lv_at hl 0 rfl) ?_
    refine m_getr C hW hx0 flX11_73 (by decide) dX11_text_319 (fun hk62 => ?_)
    obtain ⟨q63, h64, hf⟩ := bd hf
    refine m_callS (As := [.ref (ad L (gR q60 x0 23))]) (rest := []) C hW (cX11_half_ok  hk62 h64) mlX11_324 rfl hl.1 rfl (Nat.le_of_ble_eq_true rfl) (Nat.le_of_ble_eq_true rfl) (Nat.le_of_ble_eq_true rfl) dX11_text_322 (fun H locs hW => ?_)
    refine lv_aload_n C.1 C.2.1 dX11_text_325 rfl (lv_at hl 0 rfl) ?_
    refine m_getr C hW hx0 flX11_76 (by decide) dX11_text_326 (fun hk65 => ?_)
    obtain ⟨q66, h67, hf⟩ := bd hf
    refine m_callS (As := [.ref (ad L (gR q63 x0 24))]) (rest := []) C hW (cX11_half_ok  hk65 h67) mlX11_324 rfl hl.1 rfl (Nat.le_of_ble_eq_true rfl) (Nat.le_of_ble_eq_true rfl) (Nat.le_of_ble_eq_true rfl) dX11_text_329 (fun H locs hW => ?_)
    refine lv_aload_n C.1 C.2.1 dX11_text_332 rfl (lv_at hl 0 rfl) ?_
    refine m_getr C hW hx0 flX11_79 (by decide) dX11_text_333 (fun hk68 => ?_)
    obtain ⟨q69, h70, hf⟩ := bd hf
    refine m_callS (As := [.ref (ad L (gR q66 x0 25))]) (rest := []) C hW (cX11_half_ok  hk68 h70) mlX11_324 rfl hl.1 rfl (Nat.le_of_ble_eq_true rfl) (Nat.le_of_ble_eq_true rfl) (Nat.le_of_ble_eq_true rfl) dX11_text_336 (fun H locs hW => ?_)
    refine lv_aload_n C.1 C.2.1 dX11_text_339 rfl (lv_at hl 0 rfl) ?_
    refine lv_iconst C.1 C.2.1 dX11_text_340 ic_0 ?_
    refine m_puti C hW hx0 fpX11_328 dX11_text_341 (fun H locs hW => ?_)
    refine lv_aload_n C.1 C.2.1 dX11_text_344 rfl (lv_at hl 0 rfl) ?_
    refine lv_iconst C.1 C.2.1 dX11_text_345 ic_m1 ?_
    refine m_puti C hW hx0 fpX11_138 dX11_text_346 (fun H locs hW => ?_)
    refine lv_aload_n C.1 C.2.1 dX11_text_349 rfl (lv_at hl 0 rfl) ?_
    refine lv_iconst C.1 C.2.1 dX11_text_350 ic_0 ?_
    refine m_putz C hW hx0 fpX11_331 rfl dX11_text_351 (fun H locs hW => ?_)
    refine lv_aload_n C.1 C.2.1 dX11_text_354 rfl (lv_at hl 0 rfl) ?_
    refine lv_iconst C.1 C.2.1 dX11_text_355 ic_0 ?_
    refine m_puti C hW hx0 fpX11_335 dX11_text_356 (fun H locs hW => ?_)
    refine lv_aload_n C.1 C.2.1 dX11_text_359 rfl (lv_at hl 0 rfl) ?_
    obtain ⟨q71, h72, hf⟩ := bd hf
    refine m_callV (As := []) (rest := []) C hW hx0 (cX11_begins_ok  hx0 h72) mlX11_160 (by decide) rfl hl.1 rfl (Nat.le_of_ble_eq_true rfl) (Nat.le_of_ble_eq_true rfl) (Nat.le_of_ble_eq_true rfl) dX11_text_360 (fun H locs hW => ?_)
    refine lv_aload_n C.1 C.2.1 dX11_text_363 rfl (lv_at hl 0 rfl) ?_
    refine m_geti C hW hx0 flX11_237 dX11_text_364 ?_
    cases hf
    exact m_iret C hW dX11_text_367
  · have hf := (if_neg c1).symm.trans hf
    refine lv_iconst C.1 C.2.1 dX11_text_176 ic_m1 ?_
    cases hf
    exact m_iret C hW dX11_text_177

set_option maxRecDepth 100000 in
theorem kX11_text_131 {p : Program} {l : Launch} {e : Env} {s : State} {m : MethodId} {av : Array Value} {below : List Frame} {meth : Method} {c : Code} {A : Nat → Prop} {G : Gv} {L : List Nat} {q : (Int32 × MS)}  (C : mC p s m av meth c cX11_text RX11 3 (some .int)) : ∀ (n : Nat) (x0 : Nat) (S : MS) (H : Heap) (locs : List Loc) (ls : Array Slot), (x0 < shM.1 ∧ shM.2.1 x0 = 11) → mW G shM L S A s H locs → lv_has ls 3 [(0, .ref (ad L x0))] → fX11_text_131  n x0 S = some q → W p l e (rmd (1075)) s m av below meth c H locs 0 0 (MQ below (mQ G shM L q.2 (some (.int q.1)) A) av s 0 0 A) (F0 m 131 ls []) := by
  intro n
  induction n with
  | zero =>
    intro x0 S H locs ls hx0 hW hl hf
    rw [fX11_text_131] at hf
    cases hf
  | succ n ih =>
    intro x0 S H locs ls hx0 hW hl hf
    rw [fX11_text_131] at hf
    refine lv_aload_n C.1 C.2.1 dX11_text_131 rfl (lv_at hl 0 rfl) ?_
    refine m_geti C hW hx0 flX11_217 dX11_text_132 ?_
    refine lv_if_ne (tgt := 153) C.1 C.2.1 dX11_text_135 rfl (fun c73 => ?_) (fun c73 => ?_)
    · have hf := (if_neg c73).symm.trans hf
      exact kX11_text_153  C x0 _ _ _ _ hx0 hW (lv_sub hl [0] rfl) hf
    · have hf := (if_pos c73).symm.trans hf
      refine lv_aload_n C.1 C.2.1 dX11_text_138 rfl (lv_at hl 0 rfl) ?_
      refine m_geti C hW hx0 flX11_182 dX11_text_139 ?_
      refine lv_iconst C.1 C.2.1 dX11_text_142 ic_4 ?_
      refine lv_icmp_eq (tgt := 153) C.1 C.2.1 dX11_text_143 rfl (fun c74 => ?_) (fun c74 => ?_)
      · have hf := (if_pos c74).symm.trans hf
        exact kX11_text_153  C x0 _ _ _ _ hx0 hW (lv_sub hl [0] rfl) hf
      · have hf := (if_neg c74).symm.trans hf
        refine lv_aload_n C.1 C.2.1 dX11_text_146 rfl (lv_at hl 0 rfl) ?_
        obtain ⟨q75, h76, hf⟩ := bd hf
        refine m_callV (As := []) (rest := []) C hW hx0 (cX11_line_ok  hx0 h76) mlX11_318 (by decide) rfl hl.1 rfl (Nat.le_of_ble_eq_true rfl) (Nat.le_of_ble_eq_true rfl) (Nat.le_of_ble_eq_true rfl) dX11_text_147 (fun H locs hW => ?_)
        refine lv_goto (tgt := 131) C.1 C.2.1 dX11_text_150 rfl ?_
        exact ih x0 _ _ _ _ hx0 hW (lv_sub hl [0] rfl) hf

set_option maxRecDepth 100000 in
theorem kX11_text_96 {p : Program} {l : Launch} {e : Env} {s : State} {m : MethodId} {av : Array Value} {below : List Frame} {meth : Method} {c : Code} {A : Nat → Prop} {G : Gv} {L : List Nat} {q : (Int32 × MS)} {K76 : Nat → Int32 → MS → Option (Int32 × MS)} (hK76 : ∀ (x0 : Nat) (x2 : Int32) (S : MS) (H : Heap) (locs : List Loc) (ls : Array Slot), (x0 < shM.1 ∧ shM.2.1 x0 = 11) → mW G shM L S A s H locs → lv_has ls 3 [(0, .ref (ad L x0)), (2, .int x2)] → K76 x0 x2 S = some q → W p l e (rmd (1075)) s m av below meth c H locs 0 0 (MQ below (mQ G shM L q.2 (some (.int q.1)) A) av s 0 0 A) (F0 m 76 ls [])) (C : mC p s m av meth c cX11_text RX11 3 (some .int)) : ∀ (x0 : Nat) (x2 : Int32) (S : MS) (H : Heap) (locs : List Loc) (ls : Array Slot), (x0 < shM.1 ∧ shM.2.1 x0 = 11) → mW G shM L S A s H locs → lv_has ls 3 [(0, .ref (ad L x0)), (2, .int x2)] → fX11_text_96 K76 x0 x2 S = some q → W p l e (rmd (1075)) s m av below meth c H locs 0 0 (MQ below (mQ G shM L q.2 (some (.int q.1)) A) av s 0 0 A) (F0 m 96 ls []) := by
  intro x0 x2 S H locs ls hx0 hW hl hf
  unfold fX11_text_96 at hf
  refine lv_iinc (v := x2 + (1 : Int32)) (lv' := [(2, .int (x2 + (1 : Int32))), (0, .ref (ad L x0))]) C.1 C.2.1 dX11_text_96 hl (k := 1) rfl (congrArg (fun z => x2 + z) ic_1) (by decide) rfl (fun ls hl => ?_)
  refine lv_goto (tgt := 76) C.1 C.2.1 dX11_text_99 rfl ?_
  exact hK76 x0 (x2 + (1 : Int32)) _ _ _ _ hx0 hW (lv_sub hl [1, 0] rfl) hf

set_option maxRecDepth 100000 in
theorem kX11_text_76 {p : Program} {l : Launch} {e : Env} {s : State} {m : MethodId} {av : Array Value} {below : List Frame} {meth : Method} {c : Code} {A : Nat → Prop} {G : Gv} {L : List Nat} {q : (Int32 × MS)}  (C : mC p s m av meth c cX11_text RX11 3 (some .int)) : ∀ (n : Nat) (x0 : Nat) (x2 : Int32) (S : MS) (H : Heap) (locs : List Loc) (ls : Array Slot), (x0 < shM.1 ∧ shM.2.1 x0 = 11) → mW G shM L S A s H locs → lv_has ls 3 [(0, .ref (ad L x0)), (2, .int x2)] → fX11_text_76  n x0 x2 S = some q → W p l e (rmd (1075)) s m av below meth c H locs 0 0 (MQ below (mQ G shM L q.2 (some (.int q.1)) A) av s 0 0 A) (F0 m 76 ls []) := by
  intro n
  induction n with
  | zero =>
    intro x0 x2 S H locs ls hx0 hW hl hf
    rw [fX11_text_76] at hf
    cases hf
  | succ n ih =>
    intro x0 x2 S H locs ls hx0 hW hl hf
    rw [fX11_text_76] at hf
    refine lv_iload_n C.1 C.2.1 dX11_text_76 rfl (lv_at hl 1 rfl) ?_
    refine lv_bipush C.1 C.2.1 dX11_text_77 bp_6 ?_
    refine lv_icmp_ge (tgt := 102) C.1 C.2.1 dX11_text_79 rfl (fun c77 => ?_) (fun c77 => ?_)
    · have hf := (if_pos c77).symm.trans hf
      refine lv_aload_n C.1 C.2.1 dX11_text_102 rfl (lv_at hl 0 rfl) ?_
      refine lv_iconst C.1 C.2.1 dX11_text_103 ic_0 ?_
      refine m_puti C hW hx0 fpX11_246 dX11_text_104 (fun H locs hW => ?_)
      refine lv_aload_n C.1 C.2.1 dX11_text_107 rfl (lv_at hl 0 rfl) ?_
      refine lv_iconst C.1 C.2.1 dX11_text_108 ic_0 ?_
      refine m_puti C hW hx0 fpX11_279 dX11_text_109 (fun H locs hW => ?_)
      refine lv_aload_n C.1 C.2.1 dX11_text_112 rfl (lv_at hl 0 rfl) ?_
      refine lv_iconst C.1 C.2.1 dX11_text_113 ic_0 ?_
      refine m_puti C hW hx0 fpX11_237 dX11_text_114 (fun H locs hW => ?_)
      refine lv_aload_n C.1 C.2.1 dX11_text_117 rfl (lv_at hl 0 rfl) ?_
      refine lv_iconst C.1 C.2.1 dX11_text_118 ic_0 ?_
      refine m_puti C hW hx0 fpX11_315 dX11_text_119 (fun H locs hW => ?_)
      refine lv_aload_n C.1 C.2.1 dX11_text_122 rfl (lv_at hl 0 rfl) ?_
      refine lv_iconst C.1 C.2.1 dX11_text_123 ic_0 ?_
      refine m_puti C hW hx0 fpX11_285 dX11_text_124 (fun H locs hW => ?_)
      refine lv_aload_n C.1 C.2.1 dX11_text_127 rfl (lv_at hl 0 rfl) ?_
      obtain ⟨q78, h79, hf⟩ := bd hf
      refine m_callV (As := []) (rest := []) C hW hx0 (cX11_token_ok  hx0 h79) mlX11_223 (by decide) rfl hl.1 rfl (Nat.le_of_ble_eq_true rfl) (Nat.le_of_ble_eq_true rfl) (Nat.le_of_ble_eq_true rfl) dX11_text_128 (fun H locs hW => ?_)
      exact kX11_text_131  C 1000 x0 _ _ _ _ hx0 hW (lv_sub hl [0] rfl) hf
    · have hf := (if_neg c77).symm.trans hf
      refine lv_aload_n C.1 C.2.1 dX11_text_82 rfl (lv_at hl 0 rfl) ?_
      refine m_getr C hW hx0 flX11_70 (by decide) dX11_text_83 (fun hk80 => ?_)
      refine lv_iload_n C.1 C.2.1 dX11_text_86 rfl (lv_at hl 1 rfl) ?_
      refine lv_iconst C.1 C.2.1 dX11_text_87 ic_0 ?_
      obtain ⟨hb81, hf⟩ := gd hf
      refine m_iast C hW hk80 hb81 dX11_text_88 (fun H locs hW => ?_)
      refine lv_aload_n C.1 C.2.1 dX11_text_89 rfl (lv_at hl 0 rfl) ?_
      refine m_getr C hW hx0 flX11_73 (by decide) dX11_text_90 (fun hk82 => ?_)
      refine lv_iload_n C.1 C.2.1 dX11_text_93 rfl (lv_at hl 1 rfl) ?_
      refine lv_iconst C.1 C.2.1 dX11_text_94 ic_0 ?_
      obtain ⟨hb83, hf⟩ := gd hf
      refine m_iast C hW hk82 hb83 dX11_text_95 (fun H locs hW => ?_)
      exact kX11_text_96 ih C x0 x2 _ _ _ _ hx0 hW (lv_sub hl [0, 1] rfl) hf

set_option maxRecDepth 100000 in
theorem kX11_text_65 {p : Program} {l : Launch} {e : Env} {s : State} {m : MethodId} {av : Array Value} {below : List Frame} {meth : Method} {c : Code} {A : Nat → Prop} {G : Gv} {L : List Nat} {q : (Int32 × MS)} {K47 : Nat → Int32 → MS → Option (Int32 × MS)} (hK47 : ∀ (x0 : Nat) (x2 : Int32) (S : MS) (H : Heap) (locs : List Loc) (ls : Array Slot), (x0 < shM.1 ∧ shM.2.1 x0 = 11) → mW G shM L S A s H locs → lv_has ls 3 [(0, .ref (ad L x0)), (2, .int x2)] → K47 x0 x2 S = some q → W p l e (rmd (1075)) s m av below meth c H locs 0 0 (MQ below (mQ G shM L q.2 (some (.int q.1)) A) av s 0 0 A) (F0 m 47 ls [])) (C : mC p s m av meth c cX11_text RX11 3 (some .int)) : ∀ (x0 : Nat) (x2 : Int32) (y0 : Nat) (y1 : Int32) (y2 : Int32) (S : MS) (H : Heap) (locs : List Loc) (ls : Array Slot), (x0 < shM.1 ∧ shM.2.1 x0 = 11) → (y0 < shM.1 ∧ shM.2.1 y0 = 11) → mW G shM L S A s H locs → lv_has ls 3 [(0, .ref (ad L x0)), (2, .int x2)] → fX11_text_65 K47 x0 x2 y0 y1 y2 S = some q → W p l e (rmd (1075)) s m av below meth c H locs 0 0 (MQ below (mQ G shM L q.2 (some (.int q.1)) A) av s 0 0 A) (F0 m 65 ls [.int y2, .int y1, .ref (ad L y0)]) := by
  intro x0 x2 y0 y1 y2 S H locs ls hx0 hy0 hW hl hf
  unfold fX11_text_65 at hf
  obtain ⟨q84, h85, hf⟩ := bd hf
  refine m_callV (As := [.int y1, .int y2]) (rest := []) C hW hy0 (cX11_reads_ok  hy0 h85) mlX11_253 (by decide) rfl hl.1 rfl (Nat.le_of_ble_eq_true rfl) (Nat.le_of_ble_eq_true rfl) (Nat.le_of_ble_eq_true rfl) dX11_text_65 (fun H locs hW => ?_)
  refine lv_iinc (v := x2 + (1 : Int32)) (lv' := [(2, .int (x2 + (1 : Int32))), (0, .ref (ad L x0))]) C.1 C.2.1 dX11_text_68 hl (k := 1) rfl (congrArg (fun z => x2 + z) ic_1) (by decide) rfl (fun ls hl => ?_)
  refine lv_goto (tgt := 47) C.1 C.2.1 dX11_text_71 rfl ?_
  exact hK47 x0 (x2 + (1 : Int32)) _ _ _ _ hx0 hW (lv_sub hl [1, 0] rfl) hf

set_option maxRecDepth 100000 in
theorem kX11_text_47 {p : Program} {l : Launch} {e : Env} {s : State} {m : MethodId} {av : Array Value} {below : List Frame} {meth : Method} {c : Code} {A : Nat → Prop} {G : Gv} {L : List Nat} {q : (Int32 × MS)}  (C : mC p s m av meth c cX11_text RX11 3 (some .int)) : ∀ (n : Nat) (x0 : Nat) (x2 : Int32) (S : MS) (H : Heap) (locs : List Loc) (ls : Array Slot), (x0 < shM.1 ∧ shM.2.1 x0 = 11) → mW G shM L S A s H locs → lv_has ls 3 [(0, .ref (ad L x0)), (2, .int x2)] → fX11_text_47  n x0 x2 S = some q → W p l e (rmd (1075)) s m av below meth c H locs 0 0 (MQ below (mQ G shM L q.2 (some (.int q.1)) A) av s 0 0 A) (F0 m 47 ls []) := by
  intro n
  induction n with
  | zero =>
    intro x0 x2 S H locs ls hx0 hW hl hf
    rw [fX11_text_47] at hf
    cases hf
  | succ n ih =>
    intro x0 x2 S H locs ls hx0 hW hl hf
    rw [fX11_text_47] at hf
    refine lv_iload_n C.1 C.2.1 dX11_text_47 rfl (lv_at hl 1 rfl) ?_
    refine lv_bipush C.1 C.2.1 dX11_text_48 bp_13 ?_
    refine lv_icmp_ge (tgt := 74) C.1 C.2.1 dX11_text_50 rfl (fun c86 => ?_) (fun c86 => ?_)
    · have hf := (if_pos c86).symm.trans hf
      refine lv_iconst C.1 C.2.1 dX11_text_74 ic_3 ?_
      refine lv_istore_n (lv' := [(2, .int (3 : Int32)), (0, .ref (ad L x0))]) C.1 C.2.1 dX11_text_75 rfl hl (by decide) rfl (fun ls hl => ?_)
      exact kX11_text_76  C 1000 x0 (3 : Int32) _ _ _ _ hx0 hW (lv_sub hl [1, 0] rfl) hf
    · have hf := (if_neg c86).symm.trans hf
      refine lv_aload_n C.1 C.2.1 dX11_text_53 rfl (lv_at hl 0 rfl) ?_
      refine lv_iload_n C.1 C.2.1 dX11_text_54 rfl (lv_at hl 1 rfl) ?_
      refine lv_iload_n C.1 C.2.1 dX11_text_55 rfl (lv_at hl 1 rfl) ?_
      refine lv_iconst C.1 C.2.1 dX11_text_56 ic_1 ?_
      refine lv_icmp_gt (tgt := 64) C.1 C.2.1 dX11_text_57 rfl (fun c87 => ?_) (fun c87 => ?_)
      · have hf := (if_pos c87).symm.trans hf
        refine lv_iconst C.1 C.2.1 dX11_text_64 ic_0 ?_
        exact kX11_text_65 ih C x0 x2 x0 x2 (0 : Int32) _ _ _ _ hx0 hx0 hW (lv_sub hl [0, 1] rfl) hf
      · have hf := (if_neg c87).symm.trans hf
        refine lv_iconst C.1 C.2.1 dX11_text_60 ic_5 ?_
        refine lv_goto (tgt := 65) C.1 C.2.1 dX11_text_61 rfl ?_
        exact kX11_text_65 ih C x0 x2 x0 x2 (5 : Int32) _ _ _ _ hx0 hx0 hW (lv_sub hl [0, 1] rfl) hf

set_option maxRecDepth 100000 in
theorem cX11_text_ok {l : Launch} {G : Gv} {L : List Nat} {S : MS} {a0 : Nat} {a1 : Int32} {q : (Int32 × MS)} (ha0 : a0 < shM.1 ∧ shM.2.1 a0 = 11) (hf : fX11_text a0 a1 S = some q) : Mt l yX11_text cX11_text 3 (some .int) (1075) G shM L S [.ref (ad L a0), .int a1] (some (.int q.1)) q.2 := by
  refine m_enter (lv := [(0, .ref (ad L a0)), (1, .int a1)]) (plainFor_of_name (by decide)) (Nat.le_of_ble_eq_true rfl) rfl ?_
  intro p e s m below meth c A ls C hW hl
  unfold fX11_text at hf
  refine lv_aload_n C.1 C.2.1 dX11_text_0 rfl (lv_at hl 0 rfl) ?_
  refine lv_iconst C.1 C.2.1 dX11_text_1 ic_0 ?_
  refine m_puti C hW ha0 fpX11_163 dX11_text_2 (fun H locs hW => ?_)
  refine lv_iload_n C.1 C.2.1 dX11_text_5 rfl (lv_at hl 1 rfl) ?_
  refine lv_if_lt (tgt := 17) C.1 C.2.1 dX11_text_6 rfl (fun c88 => ?_) (fun c88 => ?_)
  · have hf := (if_pos c88).symm.trans hf
    refine lv_bipush C.1 C.2.1 dX11_text_17 bp_m2 ?_
    cases hf
    exact m_iret C hW dX11_text_19
  · have hf := (if_neg c88).symm.trans hf
    refine lv_iload_n C.1 C.2.1 dX11_text_9 rfl (lv_at hl 1 rfl) ?_
    refine lv_aload_n C.1 C.2.1 dX11_text_10 rfl (lv_at hl 0 rfl) ?_
    refine m_geti C hW ha0 flX11_166 dX11_text_11 ?_
    refine lv_icmp_le (tgt := 20) C.1 C.2.1 dX11_text_14 rfl (fun c89 => ?_) (fun c89 => ?_)
    · have hf := (if_pos c89).symm.trans hf
      refine lv_aload_n C.1 C.2.1 dX11_text_20 rfl (lv_at hl 0 rfl) ?_
      refine lv_iload_n C.1 C.2.1 dX11_text_21 rfl (lv_at hl 1 rfl) ?_
      refine m_puti C hW ha0 fpX11_172 dX11_text_22 (fun H locs hW => ?_)
      refine lv_aload_n C.1 C.2.1 dX11_text_25 rfl (lv_at hl 0 rfl) ?_
      refine lv_iconst C.1 C.2.1 dX11_text_26 ic_0 ?_
      refine m_puti C hW ha0 fpX11_166 dX11_text_27 (fun H locs hW => ?_)
      refine lv_aload_n C.1 C.2.1 dX11_text_30 rfl (lv_at hl 0 rfl) ?_
      refine lv_iconst C.1 C.2.1 dX11_text_31 ic_0 ?_
      refine m_puti C hW ha0 fpX11_169 dX11_text_32 (fun H locs hW => ?_)
      refine lv_aload_n C.1 C.2.1 dX11_text_35 rfl (lv_at hl 0 rfl) ?_
      refine lv_iconst C.1 C.2.1 dX11_text_36 ic_0 ?_
      refine m_puti C hW ha0 fpX11_217 dX11_text_37 (fun H locs hW => ?_)
      refine lv_aload_n C.1 C.2.1 dX11_text_40 rfl (lv_at hl 0 rfl) ?_
      refine lv_iconst C.1 C.2.1 dX11_text_41 ic_m1 ?_
      refine m_puti C hW ha0 fpX11_220 dX11_text_42 (fun H locs hW => ?_)
      refine lv_iconst C.1 C.2.1 dX11_text_45 ic_0 ?_
      refine lv_istore_n (lv' := [(2, .int (0 : Int32)), (0, .ref (ad L a0)), (1, .int a1)]) C.1 C.2.1 dX11_text_46 rfl hl (by decide) rfl (fun ls hl => ?_)
      exact kX11_text_47  C 1000 a0 (0 : Int32) _ _ _ _ ha0 hW (lv_sub hl [1, 0] rfl) hf
    · have hf := (if_neg c89).symm.trans hf
      refine lv_bipush C.1 C.2.1 dX11_text_17 bp_m2 ?_
      cases hf
      exact m_iret C hW dX11_text_19

