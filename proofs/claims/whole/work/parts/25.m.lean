def fX11_falls_20  (x0 : Nat) (x1 : Int32) (x2 : Int32) (x3 : Int32) (S : MS) : Option MS := (fX11_lightFar  x0 x1 x2 x3 (pI S x0 60 (1 : Int32))).bind fun q1 => (if gI q1.2 x0 61 = (-1 : Int32) then some q1.2 else (fX11_fallsBy  x0 x1 (gI q1.2 x0 61) q1.1 x2 q1.2).bind fun q4 => some q4)
def fX11_falls (a0 : Nat) (a1 : Int32) (a2 : Int32) (a3 : Int32) (S : MS) : Option MS := (if bnd a1 (lnM (gR S a0 46)) = true then (if bnd a1 (lnM (gR (pI S a0 58 (gI S (gR S a0 46) a1.toNatClampNeg)) a0 47)) = true then fX11_falls_20  a0 a1 a2 a3 (pI (pI S a0 58 (gI S (gR S a0 46) a1.toNatClampNeg)) a0 59 (gI (pI S a0 58 (gI S (gR S a0 46) a1.toNatClampNeg)) (gR (pI S a0 58 (gI S (gR S a0 46) a1.toNatClampNeg)) a0 47) a1.toNatClampNeg)) else none) else none)
set_option maxRecDepth 100000 in
theorem kX11_falls_20 {p : Program} {l : Launch} {e : Env} {s : State} {m : MethodId} {av : Array Value} {below : List Frame} {meth : Method} {c : Code} {A : Nat → Prop} {G : Gv} {L : List Nat} {q : MS}  (C : mC p s m av meth c cX11_falls RX11 5 none) : ∀ (x0 : Nat) (x1 : Int32) (x2 : Int32) (x3 : Int32) (S : MS) (H : Heap) (locs : List Loc) (ls : Array Slot), (x0 < shM.1 ∧ shM.2.1 x0 = 11) → mW G shM L S A s H locs → lv_has ls 5 [(0, .ref (ad L x0)), (1, .int x1), (2, .int x2), (3, .int x3)] → fX11_falls_20  x0 x1 x2 x3 S = some q → W p l e (rmd (6)) s m av below meth c H locs 0 0 (MQ below (mQ G shM L q none A) av s 0 0 A) (F0 m 20 ls []) := by
  intro x0 x1 x2 x3 S H locs ls hx0 hW hl hf
  unfold fX11_falls_20 at hf
  refine lv_aload_n C.1 C.2.1 dX11_falls_20 rfl (lv_at hl 0 rfl) ?_
  refine lv_iconst C.1 C.2.1 dX11_falls_21 ic_1 ?_
  refine m_putz C hW hx0 fpX11_403 rfl dX11_falls_22 (fun H locs hW => ?_)
  refine lv_aload_n C.1 C.2.1 dX11_falls_25 rfl (lv_at hl 0 rfl) ?_
  refine lv_iload_n C.1 C.2.1 dX11_falls_26 rfl (lv_at hl 1 rfl) ?_
  refine lv_iload_n C.1 C.2.1 dX11_falls_27 rfl (lv_at hl 2 rfl) ?_
  refine lv_iload_n C.1 C.2.1 dX11_falls_28 rfl (lv_at hl 3 rfl) ?_
  obtain ⟨q1, h2, hf⟩ := bd hf
  refine m_callV (As := [.int x1, .int x2, .int x3]) (rest := []) C hW hx0 (cX11_lightFar_ok  hx0 h2) mlX11_418 (by decide) rfl hl.1 rfl (Nat.le_of_ble_eq_true rfl) (Nat.le_of_ble_eq_true rfl) (Nat.le_of_ble_eq_true rfl) dX11_falls_29 (fun H locs hW => ?_)
  refine lv_istore (lv' := [(4, .int q1.1), (0, .ref (ad L x0)), (1, .int x1), (2, .int x2), (3, .int x3)]) C.1 C.2.1 dX11_falls_32 hl (by decide) rfl (fun ls hl => ?_)
  refine lv_aload_n C.1 C.2.1 dX11_falls_34 rfl (lv_at hl 1 rfl) ?_
  refine m_geti C hW hx0 flX11_406 dX11_falls_35 ?_
  refine lv_iconst C.1 C.2.1 dX11_falls_38 ic_m1 ?_
  refine lv_icmp_eq (tgt := 54) C.1 C.2.1 dX11_falls_39 rfl (fun c3 => ?_) (fun c3 => ?_)
  · have hf := (if_pos c3).symm.trans hf
    cases hf
    exact m_vret C hW dX11_falls_54
  · have hf := (if_neg c3).symm.trans hf
    refine lv_aload_n C.1 C.2.1 dX11_falls_42 rfl (lv_at hl 1 rfl) ?_
    refine lv_iload_n C.1 C.2.1 dX11_falls_43 rfl (lv_at hl 2 rfl) ?_
    refine lv_aload_n C.1 C.2.1 dX11_falls_44 rfl (lv_at hl 1 rfl) ?_
    refine m_geti C hW hx0 flX11_406 dX11_falls_45 ?_
    refine lv_iload C.1 C.2.1 dX11_falls_48 (lv_at hl 0 rfl) ?_
    refine lv_iload_n C.1 C.2.1 dX11_falls_50 rfl (lv_at hl 3 rfl) ?_
    obtain ⟨q4, h5, hf⟩ := bd hf
    refine m_callV (As := [.int x1, .int (gI q1.2 x0 61), .int q1.1, .int x2]) (rest := []) C hW hx0 (cX11_fallsBy_ok  hx0 h5) mlX11_422 (by decide) rfl hl.1 rfl (Nat.le_of_ble_eq_true rfl) (Nat.le_of_ble_eq_true rfl) (Nat.le_of_ble_eq_true rfl) dX11_falls_51 (fun H locs hW => ?_)
    cases hf
    exact m_vret C hW dX11_falls_54

set_option maxRecDepth 100000 in
theorem cX11_falls_ok {l : Launch} {G : Gv} {L : List Nat} {S : MS} {a0 : Nat} {a1 : Int32} {a2 : Int32} {a3 : Int32} {q : MS} (ha0 : a0 < shM.1 ∧ shM.2.1 a0 = 11) (hf : fX11_falls a0 a1 a2 a3 S = some q) : Mt l yX11_falls cX11_falls 5 none (6) G shM L S [.ref (ad L a0), .int a1, .int a2, .int a3] none q := by
  refine m_enter (lv := [(0, .ref (ad L a0)), (1, .int a1), (2, .int a2), (3, .int a3)]) (plainFor_of_name (by decide)) (Nat.le_of_ble_eq_true rfl) rfl ?_
  intro p e s m below meth c A ls C hW hl
  unfold fX11_falls at hf
  refine lv_aload_n C.1 C.2.1 dX11_falls_0 rfl (lv_at hl 0 rfl) ?_
  refine lv_aload_n C.1 C.2.1 dX11_falls_1 rfl (lv_at hl 0 rfl) ?_
  refine m_getr C hW ha0 flX11_102 (by decide) dX11_falls_2 (fun hk6 => ?_)
  refine lv_iload_n C.1 C.2.1 dX11_falls_5 rfl (lv_at hl 1 rfl) ?_
  obtain ⟨hb7, hf⟩ := gd hf
  refine m_iald C hW hk6 hb7 dX11_falls_6 ?_
  refine m_puti C hW ha0 fpX11_387 dX11_falls_7 (fun H locs hW => ?_)
  refine lv_aload_n C.1 C.2.1 dX11_falls_10 rfl (lv_at hl 0 rfl) ?_
  refine lv_aload_n C.1 C.2.1 dX11_falls_11 rfl (lv_at hl 0 rfl) ?_
  refine m_getr C hW ha0 flX11_105 (by decide) dX11_falls_12 (fun hk8 => ?_)
  refine lv_iload_n C.1 C.2.1 dX11_falls_15 rfl (lv_at hl 1 rfl) ?_
  obtain ⟨hb9, hf⟩ := gd hf
  refine m_iald C hW hk8 hb9 dX11_falls_16 ?_
  refine m_puti C hW ha0 fpX11_393 dX11_falls_17 (fun H locs hW => ?_)
  exact kX11_falls_20  C a0 a1 a2 a3 _ _ _ _ ha0 hW (lv_sub hl [0, 1, 2, 3] rfl) hf

def fX11_triesStep (a0 : Nat) (a1 : Int32) (a2 : Int32) (S : MS) : Option MS := (fX11_canStep  a0 a1 a2 S).bind fun q1 => (if q1 = (0 : Int32) then (if bnd a1 (lnM (gR S a0 45)) = true then (if bnd a1 (lnM (gR S a0 45)) = true then some (pI S (gR S a0 45) a1.toNatClampNeg ((gI S (gR S a0 45) a1.toNatClampNeg) + (1 : Int32))) else none) else none) else (fX11_stepsBy  a0 a1 a2 S).bind fun q7 => some q7)
set_option maxRecDepth 100000 in
theorem cX11_triesStep_ok {l : Launch} {G : Gv} {L : List Nat} {S : MS} {a0 : Nat} {a1 : Int32} {a2 : Int32} {q : MS} (ha0 : a0 < shM.1 ∧ shM.2.1 a0 = 11) (hf : fX11_triesStep a0 a1 a2 S = some q) : Mt l yX11_triesStep cX11_triesStep 3 none (6) G shM L S [.ref (ad L a0), .int a1, .int a2] none q := by
  refine m_enter (lv := [(0, .ref (ad L a0)), (1, .int a1), (2, .int a2)]) (plainFor_of_name (by decide)) (Nat.le_of_ble_eq_true rfl) rfl ?_
  intro p e s m below meth c A ls C hW hl
  unfold fX11_triesStep at hf
  refine lv_aload_n C.1 C.2.1 dX11_triesStep_0 rfl (lv_at hl 0 rfl) ?_
  refine lv_iload_n C.1 C.2.1 dX11_triesStep_1 rfl (lv_at hl 1 rfl) ?_
  refine lv_iload_n C.1 C.2.1 dX11_triesStep_2 rfl (lv_at hl 2 rfl) ?_
  obtain ⟨q1, h2, hf⟩ := bd hf
  refine m_callV (As := [.int a1, .int a2]) (rest := []) C hW ha0 (cX11_canStep_ok  ha0 h2) mlX11_435 (by decide) rfl hl.1 rfl (Nat.le_of_ble_eq_true rfl) (Nat.le_of_ble_eq_true rfl) (Nat.le_of_ble_eq_true rfl) dX11_triesStep_3 (fun H locs hW => ?_)
  refine lv_if_eq (tgt := 18) C.1 C.2.1 dX11_triesStep_6 rfl (fun c3 => ?_) (fun c3 => ?_)
  · have hf := (if_pos c3).symm.trans hf
    refine lv_aload_n C.1 C.2.1 dX11_triesStep_18 rfl (lv_at hl 0 rfl) ?_
    refine m_getr C hW ha0 flX11_99 (by decide) dX11_triesStep_19 (fun hk4 => ?_)
    refine lv_iload_n C.1 C.2.1 dX11_triesStep_22 rfl (lv_at hl 1 rfl) ?_
    refine lv_dup2_11 C.1 C.2.1 dX11_triesStep_23 rfl rfl ?_
    obtain ⟨hb5, hf⟩ := gd hf
    refine m_iald C hW hk4 hb5 dX11_triesStep_24 ?_
    refine lv_iconst C.1 C.2.1 dX11_triesStep_25 ic_1 ?_
    refine lv_iadd C.1 C.2.1 dX11_triesStep_26 ?_
    obtain ⟨hb6, hf⟩ := gd hf
    refine m_iast C hW hk4 hb6 dX11_triesStep_27 (fun H locs hW => ?_)
    cases hf
    exact m_vret C hW dX11_triesStep_28
  · have hf := (if_neg c3).symm.trans hf
    refine lv_aload_n C.1 C.2.1 dX11_triesStep_9 rfl (lv_at hl 0 rfl) ?_
    refine lv_iload_n C.1 C.2.1 dX11_triesStep_10 rfl (lv_at hl 1 rfl) ?_
    refine lv_iload_n C.1 C.2.1 dX11_triesStep_11 rfl (lv_at hl 2 rfl) ?_
    obtain ⟨q7, h8, hf⟩ := bd hf
    refine m_callV (As := [.int a1, .int a2]) (rest := []) C hW ha0 (cX11_stepsBy_ok  ha0 h8) mlX11_438 (by decide) rfl hl.1 rfl (Nat.le_of_ble_eq_true rfl) (Nat.le_of_ble_eq_true rfl) (Nat.le_of_ble_eq_true rfl) dX11_triesStep_12 (fun H locs hW => ?_)
    refine lv_goto (tgt := 28) C.1 C.2.1 dX11_triesStep_15 rfl ?_
    cases hf
    exact m_vret C hW dX11_triesStep_28

def fX11_step (a0 : Nat) (a1 : Int32) (S : MS) : Option (Int32 × MS) := (if a1 < (0 : Int32) then some ((-1 : Int32), pI S a0 0 (0 : Int32)) else (if a1 ≤ (3 : Int32) then (fX11_canStep  a0 (0 : Int32) a1 (pI S a0 0 (0 : Int32))).bind fun q3 => (if q3 = (0 : Int32) then some ((-2 : Int32), pI S a0 0 (0 : Int32)) else (fX11_keepNow  a0 (pI S a0 0 (0 : Int32))).bind fun q6 => (fX11_stepsBy  a0 (0 : Int32) a1 q6).bind fun q8 => (if bnd (0 : Int32) (lnM (gR q8 a0 48)) = true then some (gI q8 (gR q8 a0 48) (0 : Int32).toNatClampNeg, q8) else none)) else some ((-1 : Int32), pI S a0 0 (0 : Int32))))
set_option maxRecDepth 100000 in
theorem cX11_step_ok {l : Launch} {G : Gv} {L : List Nat} {S : MS} {a0 : Nat} {a1 : Int32} {q : (Int32 × MS)} (ha0 : a0 < shM.1 ∧ shM.2.1 a0 = 11) (hf : fX11_step a0 a1 S = some q) : Mt l yX11_step cX11_step 2 (some .int) (6) G shM L S [.ref (ad L a0), .int a1] (some (.int q.1)) q.2 := by
  refine m_enter (lv := [(0, .ref (ad L a0)), (1, .int a1)]) (plainFor_of_name (by decide)) (Nat.le_of_ble_eq_true rfl) rfl ?_
  intro p e s m below meth c A ls C hW hl
  unfold fX11_step at hf
  refine lv_aload_n C.1 C.2.1 dX11_step_0 rfl (lv_at hl 0 rfl) ?_
  refine lv_iconst C.1 C.2.1 dX11_step_1 ic_0 ?_
  refine m_puti C hW ha0 fpX11_163 dX11_step_2 (fun H locs hW => ?_)
  refine lv_iload_n C.1 C.2.1 dX11_step_5 rfl (lv_at hl 1 rfl) ?_
  refine lv_if_lt (tgt := 14) C.1 C.2.1 dX11_step_6 rfl (fun c1 => ?_) (fun c1 => ?_)
  · have hf := (if_pos c1).symm.trans hf
    refine lv_iconst C.1 C.2.1 dX11_step_14 ic_m1 ?_
    cases hf
    exact m_iret C hW dX11_step_15
  · have hf := (if_neg c1).symm.trans hf
    refine lv_iload_n C.1 C.2.1 dX11_step_9 rfl (lv_at hl 1 rfl) ?_
    refine lv_iconst C.1 C.2.1 dX11_step_10 ic_3 ?_
    refine lv_icmp_le (tgt := 16) C.1 C.2.1 dX11_step_11 rfl (fun c2 => ?_) (fun c2 => ?_)
    · have hf := (if_pos c2).symm.trans hf
      refine lv_aload_n C.1 C.2.1 dX11_step_16 rfl (lv_at hl 0 rfl) ?_
      refine lv_iconst C.1 C.2.1 dX11_step_17 ic_0 ?_
      refine lv_iload_n C.1 C.2.1 dX11_step_18 rfl (lv_at hl 1 rfl) ?_
      obtain ⟨q3, h4, hf⟩ := bd hf
      refine m_callV (As := [.int (0 : Int32), .int a1]) (rest := []) C hW ha0 (cX11_canStep_ok  ha0 h4) mlX11_435 (by decide) rfl hl.1 rfl (Nat.le_of_ble_eq_true rfl) (Nat.le_of_ble_eq_true rfl) (Nat.le_of_ble_eq_true rfl) dX11_step_19 (fun H locs hW => ?_)
      refine lv_if_ne (tgt := 28) C.1 C.2.1 dX11_step_22 rfl (fun c5 => ?_) (fun c5 => ?_)
      · have hf := (if_neg c5).symm.trans hf
        refine lv_aload_n C.1 C.2.1 dX11_step_28 rfl (lv_at hl 0 rfl) ?_
        obtain ⟨q6, h7, hf⟩ := bd hf
        refine m_callV (As := []) (rest := []) C hW ha0 (cX11_keepNow_ok  ha0 h7) mlX11_491 (by decide) rfl hl.1 rfl (Nat.le_of_ble_eq_true rfl) (Nat.le_of_ble_eq_true rfl) (Nat.le_of_ble_eq_true rfl) dX11_step_29 (fun H locs hW => ?_)
        refine lv_aload_n C.1 C.2.1 dX11_step_32 rfl (lv_at hl 0 rfl) ?_
        refine lv_iconst C.1 C.2.1 dX11_step_33 ic_0 ?_
        refine lv_iload_n C.1 C.2.1 dX11_step_34 rfl (lv_at hl 1 rfl) ?_
        obtain ⟨q8, h9, hf⟩ := bd hf
        refine m_callV (As := [.int (0 : Int32), .int a1]) (rest := []) C hW ha0 (cX11_stepsBy_ok  ha0 h9) mlX11_438 (by decide) rfl hl.1 rfl (Nat.le_of_ble_eq_true rfl) (Nat.le_of_ble_eq_true rfl) (Nat.le_of_ble_eq_true rfl) dX11_step_35 (fun H locs hW => ?_)
        refine lv_aload_n C.1 C.2.1 dX11_step_38 rfl (lv_at hl 0 rfl) ?_
        refine m_getr C hW ha0 flX11_108 (by decide) dX11_step_39 (fun hk10 => ?_)
        refine lv_iconst C.1 C.2.1 dX11_step_42 ic_0 ?_
        obtain ⟨hb11, hf⟩ := gd hf
        refine m_iald C hW hk10 hb11 dX11_step_43 ?_
        cases hf
        exact m_iret C hW dX11_step_44
      · have hf := (if_pos c5).symm.trans hf
        refine lv_bipush C.1 C.2.1 dX11_step_25 bp_m2 ?_
        cases hf
        exact m_iret C hW dX11_step_27
    · have hf := (if_neg c2).symm.trans hf
      refine lv_iconst C.1 C.2.1 dX11_step_14 ic_m1 ?_
      cases hf
      exact m_iret C hW dX11_step_15

def fX11_token_18 (K0 : Nat → MS → Option MS) (x0 : Nat) (S : MS) : Option MS := K0 x0 (pI S x0 30 ((gI S x0 30) + (1 : Int32)))
def fX11_token_204 (K162 : Nat → MS → Option MS) (x0 : Nat) (y0 : Nat) (y1 : Int32) (S : MS) : Option MS := K162 x0 (pI (pI S y0 33 y1) x0 30 ((gI (pI S y0 33 y1) x0 30) + (1 : Int32)))
def fX11_token_162  : Nat → Nat → MS → Option MS
  | 0, _, _ => none
  | n + 1, x0, S => (fX11_here  x0 S).bind fun q1 => (fX11_isDigit  q1 S).bind fun q3 => (if q3 = (0 : Int32) then some S else (if (gI S x0 33) ≤ (99999 : Int32) then (fX11_here  x0 S).bind fun q7 => fX11_token_204 (fX11_token_162  n) x0 x0 ((((10 : Int32) * (gI S x0 33)) + q7) - (48 : Int32)) S else fX11_token_204 (fX11_token_162  n) x0 x0 (gI S x0 33) S))
def fX11_token_127  (x0 : Nat) (y0 : Nat) (y1 : Int32) (S : MS) : Option MS := (if gI (pI S y0 32 y1) x0 32 = (1 : Int32) then (fX11_name  x0 (pI S y0 32 y1)).bind fun q10 => some q10 else some (pI S y0 32 y1))
def fX11_token_64  : Nat → Nat → MS → Option MS
  | 0, _, _ => none
  | n + 1, x0, S => (fX11_here  x0 S).bind fun q12 => (fX11_isSmall  q12 S).bind fun q14 => (if q14 = (0 : Int32) then (fX11_word  x0 S).bind fun q17 => (if gI (pI S x0 33 q17) x0 33 = (-1 : Int32) then (if ((gI (pI S x0 33 q17) x0 30) - (gI (pI S x0 33 q17) x0 31)) ≤ (6 : Int32) then fX11_token_127  x0 x0 (1 : Int32) (pI S x0 33 q17) else fX11_token_127  x0 x0 (5 : Int32) (pI S x0 33 q17)) else fX11_token_127  x0 x0 (0 : Int32) (pI S x0 33 q17)) else (fX11_token_64  n) x0 (pI S x0 30 ((gI S x0 30) + (1 : Int32))))
def fX11_token_0  : Nat → Nat → MS → Option MS
  | 0, _, _ => none
  | n + 1, x0, S => (fX11_here  x0 S).bind fun q21 => (if q21 = (10 : Int32) then fX11_token_18 (fX11_token_0  n) x0 S else (fX11_here  x0 S).bind fun q24 => (if q24 = (32 : Int32) then fX11_token_18 (fX11_token_0  n) x0 S else (fX11_here  x0 (pI S x0 31 (gI S x0 30))).bind fun q27 => (if q27 = (-1 : Int32) then some (pI (pI S x0 31 (gI S x0 30)) x0 32 (4 : Int32)) else (fX11_isSmall  q27 (pI S x0 31 (gI S x0 30))).bind fun q30 => (if q30 = (0 : Int32) then (fX11_isDigit  q27 (pI S x0 31 (gI S x0 30))).bind fun q33 => (if q33 = (0 : Int32) then (fX11_sign  x0 q27 (pI S x0 31 (gI S x0 30))).bind fun q36 => some q36 else fX11_token_162  1000 x0 (pI (pI (pI S x0 31 (gI S x0 30)) x0 32 (2 : Int32)) x0 33 (0 : Int32))) else fX11_token_64  1000 x0 (pI S x0 31 (gI S x0 30))))))
def fX11_token (a0 : Nat) (S : MS) : Option MS := fX11_token_0  1000 a0 S
set_option maxRecDepth 100000 in
theorem kX11_token_18 {p : Program} {l : Launch} {e : Env} {s : State} {m : MethodId} {av : Array Value} {below : List Frame} {meth : Method} {c : Code} {A : Nat → Prop} {G : Gv} {L : List Nat} {q : MS} {K0 : Nat → MS → Option MS} (hK0 : ∀ (x0 : Nat) (S : MS) (H : Heap) (locs : List Loc) (ls : Array Slot), (x0 < shM.1 ∧ shM.2.1 x0 = 11) → mW G shM L S A s H locs → lv_has ls 2 [(0, .ref (ad L x0))] → K0 x0 S = some q → W p l e (rmd (6)) s m av below meth c H locs 0 0 (MQ below (mQ G shM L q none A) av s 0 0 A) (F0 m 0 ls [])) (C : mC p s m av meth c cX11_token RX11 2 none) : ∀ (x0 : Nat) (S : MS) (H : Heap) (locs : List Loc) (ls : Array Slot), (x0 < shM.1 ∧ shM.2.1 x0 = 11) → mW G shM L S A s H locs → lv_has ls 2 [(0, .ref (ad L x0))] → fX11_token_18 K0 x0 S = some q → W p l e (rmd (6)) s m av below meth c H locs 0 0 (MQ below (mQ G shM L q none A) av s 0 0 A) (F0 m 18 ls []) := by
  intro x0 S H locs ls hx0 hW hl hf
  unfold fX11_token_18 at hf
  refine lv_aload_n C.1 C.2.1 dX11_token_18 rfl (lv_at hl 0 rfl) ?_
  refine lv_dup C.1 C.2.1 dX11_token_19 rfl ?_
  refine m_geti C hW hx0 flX11_169 dX11_token_20 ?_
  refine lv_iconst C.1 C.2.1 dX11_token_23 ic_1 ?_
  refine lv_iadd C.1 C.2.1 dX11_token_24 ?_
  refine m_puti C hW hx0 fpX11_169 dX11_token_25 (fun H locs hW => ?_)
  refine lv_goto (tgt := 0) C.1 C.2.1 dX11_token_28 rfl ?_
  exact hK0 x0 _ _ _ _ hx0 hW (lv_sub hl [0] rfl) hf

set_option maxRecDepth 100000 in
theorem kX11_token_204 {p : Program} {l : Launch} {e : Env} {s : State} {m : MethodId} {av : Array Value} {below : List Frame} {meth : Method} {c : Code} {A : Nat → Prop} {G : Gv} {L : List Nat} {q : MS} {K162 : Nat → MS → Option MS} (hK162 : ∀ (x0 : Nat) (S : MS) (H : Heap) (locs : List Loc) (ls : Array Slot), (x0 < shM.1 ∧ shM.2.1 x0 = 11) → mW G shM L S A s H locs → lv_has ls 2 [(0, .ref (ad L x0))] → K162 x0 S = some q → W p l e (rmd (6)) s m av below meth c H locs 0 0 (MQ below (mQ G shM L q none A) av s 0 0 A) (F0 m 162 ls [])) (C : mC p s m av meth c cX11_token RX11 2 none) : ∀ (x0 : Nat) (y0 : Nat) (y1 : Int32) (S : MS) (H : Heap) (locs : List Loc) (ls : Array Slot), (x0 < shM.1 ∧ shM.2.1 x0 = 11) → (y0 < shM.1 ∧ shM.2.1 y0 = 11) → mW G shM L S A s H locs → lv_has ls 2 [(0, .ref (ad L x0))] → fX11_token_204 K162 x0 y0 y1 S = some q → W p l e (rmd (6)) s m av below meth c H locs 0 0 (MQ below (mQ G shM L q none A) av s 0 0 A) (F0 m 204 ls [.int y1, .ref (ad L y0)]) := by
  intro x0 y0 y1 S H locs ls hx0 hy0 hW hl hf
  unfold fX11_token_204 at hf
  refine m_puti C hW hy0 fpX11_192 dX11_token_204 (fun H locs hW => ?_)
  refine lv_aload_n C.1 C.2.1 dX11_token_207 rfl (lv_at hl 0 rfl) ?_
  refine lv_dup C.1 C.2.1 dX11_token_208 rfl ?_
  refine m_geti C hW hx0 flX11_169 dX11_token_209 ?_
  refine lv_iconst C.1 C.2.1 dX11_token_212 ic_1 ?_
  refine lv_iadd C.1 C.2.1 dX11_token_213 ?_
  refine m_puti C hW hx0 fpX11_169 dX11_token_214 (fun H locs hW => ?_)
  refine lv_goto (tgt := 162) C.1 C.2.1 dX11_token_217 rfl ?_
  exact hK162 x0 _ _ _ _ hx0 hW (lv_sub hl [0] rfl) hf

set_option maxRecDepth 100000 in
theorem kX11_token_162 {p : Program} {l : Launch} {e : Env} {s : State} {m : MethodId} {av : Array Value} {below : List Frame} {meth : Method} {c : Code} {A : Nat → Prop} {G : Gv} {L : List Nat} {q : MS}  (C : mC p s m av meth c cX11_token RX11 2 none) : ∀ (n : Nat) (x0 : Nat) (S : MS) (H : Heap) (locs : List Loc) (ls : Array Slot), (x0 < shM.1 ∧ shM.2.1 x0 = 11) → mW G shM L S A s H locs → lv_has ls 2 [(0, .ref (ad L x0))] → fX11_token_162  n x0 S = some q → W p l e (rmd (6)) s m av below meth c H locs 0 0 (MQ below (mQ G shM L q none A) av s 0 0 A) (F0 m 162 ls []) := by
  intro n
  induction n with
  | zero =>
    intro x0 S H locs ls hx0 hW hl hf
    rw [fX11_token_162] at hf
    cases hf
  | succ n ih =>
    intro x0 S H locs ls hx0 hW hl hf
    rw [fX11_token_162] at hf
    refine lv_aload_n C.1 C.2.1 dX11_token_162 rfl (lv_at hl 0 rfl) ?_
    obtain ⟨q1, h2, hf⟩ := bd hf
    refine m_callV (As := []) (rest := []) C hW hx0 (cX11_here_ok  hx0 h2) mlX11_175 (by decide) rfl hl.1 rfl (Nat.le_of_ble_eq_true rfl) (Nat.le_of_ble_eq_true rfl) (Nat.le_of_ble_eq_true rfl) dX11_token_163 (fun H locs hW => ?_)
    obtain ⟨q3, h4, hf⟩ := bd hf
    refine m_callS (As := [.int q1]) (rest := []) C hW (cX11_isDigit_ok   h4) mlX11_198 rfl hl.1 rfl (Nat.le_of_ble_eq_true rfl) (Nat.le_of_ble_eq_true rfl) (Nat.le_of_ble_eq_true rfl) dX11_token_166 (fun H locs hW => ?_)
    refine lv_if_eq (tgt := 225) C.1 C.2.1 dX11_token_169 rfl (fun c5 => ?_) (fun c5 => ?_)
    · have hf := (if_pos c5).symm.trans hf
      cases hf
      exact m_vret C hW dX11_token_225
    · have hf := (if_neg c5).symm.trans hf
      refine lv_aload_n C.1 C.2.1 dX11_token_172 rfl (lv_at hl 0 rfl) ?_
      refine lv_aload_n C.1 C.2.1 dX11_token_173 rfl (lv_at hl 0 rfl) ?_
      refine m_geti C hW hx0 flX11_192 dX11_token_174 ?_
      refine lv_ldc C.1 C.2.1 C.2.2.2.1 (C.2.2.2.2.1 _ kw_1634) dX11_token_177 ?_
      refine lv_icmp_le (tgt := 189) C.1 C.2.1 dX11_token_179 rfl (fun c6 => ?_) (fun c6 => ?_)
      · have hf := (if_pos c6).symm.trans hf
        refine lv_bipush C.1 C.2.1 dX11_token_189 bp_10 ?_
        refine lv_aload_n C.1 C.2.1 dX11_token_191 rfl (lv_at hl 0 rfl) ?_
        refine m_geti C hW hx0 flX11_192 dX11_token_192 ?_
        refine lv_imul C.1 C.2.1 dX11_token_195 ?_
        refine lv_aload_n C.1 C.2.1 dX11_token_196 rfl (lv_at hl 0 rfl) ?_
        obtain ⟨q7, h8, hf⟩ := bd hf
        refine m_callV (As := []) (rest := [.int ((10 : Int32) * (gI S x0 33)), .ref (ad L x0)]) C hW hx0 (cX11_here_ok  hx0 h8) mlX11_175 (by decide) rfl hl.1 rfl (Nat.le_of_ble_eq_true rfl) (Nat.le_of_ble_eq_true rfl) (Nat.le_of_ble_eq_true rfl) dX11_token_197 (fun H locs hW => ?_)
        refine lv_iadd C.1 C.2.1 dX11_token_200 ?_
        refine lv_bipush C.1 C.2.1 dX11_token_201 bp_48 ?_
        refine lv_isub C.1 C.2.1 dX11_token_203 ?_
        exact kX11_token_204 ih C x0 x0 ((((10 : Int32) * (gI S x0 33)) + q7) - (48 : Int32)) _ _ _ _ hx0 hx0 hW (lv_sub hl [0] rfl) hf
      · have hf := (if_neg c6).symm.trans hf
        refine lv_aload_n C.1 C.2.1 dX11_token_182 rfl (lv_at hl 0 rfl) ?_
        refine m_geti C hW hx0 flX11_192 dX11_token_183 ?_
        refine lv_goto (tgt := 204) C.1 C.2.1 dX11_token_186 rfl ?_
        exact kX11_token_204 ih C x0 x0 (gI S x0 33) _ _ _ _ hx0 hx0 hW (lv_sub hl [0] rfl) hf

set_option maxRecDepth 100000 in
theorem kX11_token_127 {p : Program} {l : Launch} {e : Env} {s : State} {m : MethodId} {av : Array Value} {below : List Frame} {meth : Method} {c : Code} {A : Nat → Prop} {G : Gv} {L : List Nat} {q : MS}  (C : mC p s m av meth c cX11_token RX11 2 none) : ∀ (x0 : Nat) (y0 : Nat) (y1 : Int32) (S : MS) (H : Heap) (locs : List Loc) (ls : Array Slot), (x0 < shM.1 ∧ shM.2.1 x0 = 11) → (y0 < shM.1 ∧ shM.2.1 y0 = 11) → mW G shM L S A s H locs → lv_has ls 2 [(0, .ref (ad L x0))] → fX11_token_127  x0 y0 y1 S = some q → W p l e (rmd (6)) s m av below meth c H locs 0 0 (MQ below (mQ G shM L q none A) av s 0 0 A) (F0 m 127 ls [.int y1, .ref (ad L y0)]) := by
  intro x0 y0 y1 S H locs ls hx0 hy0 hW hl hf
  unfold fX11_token_127 at hf
  refine m_puti C hW hy0 fpX11_182 dX11_token_127 (fun H locs hW => ?_)
  refine lv_aload_n C.1 C.2.1 dX11_token_130 rfl (lv_at hl 0 rfl) ?_
  refine m_geti C hW hx0 flX11_182 dX11_token_131 ?_
  refine lv_iconst C.1 C.2.1 dX11_token_134 ic_1 ?_
  refine lv_icmp_ne (tgt := 225) C.1 C.2.1 dX11_token_135 rfl (fun c9 => ?_) (fun c9 => ?_)
  · have hf := (if_neg c9).symm.trans hf
    cases hf
    exact m_vret C hW dX11_token_225
  · have hf := (if_pos c9).symm.trans hf
    refine lv_aload_n C.1 C.2.1 dX11_token_138 rfl (lv_at hl 0 rfl) ?_
    obtain ⟨q10, h11, hf⟩ := bd hf
    refine m_callV (As := []) (rest := []) C hW hx0 (cX11_name_ok  hx0 h11) mlX11_195 (by decide) rfl hl.1 rfl (Nat.le_of_ble_eq_true rfl) (Nat.le_of_ble_eq_true rfl) (Nat.le_of_ble_eq_true rfl) dX11_token_139 (fun H locs hW => ?_)
    refine lv_goto (tgt := 225) C.1 C.2.1 dX11_token_142 rfl ?_
    cases hf
    exact m_vret C hW dX11_token_225

set_option maxRecDepth 100000 in
theorem kX11_token_64 {p : Program} {l : Launch} {e : Env} {s : State} {m : MethodId} {av : Array Value} {below : List Frame} {meth : Method} {c : Code} {A : Nat → Prop} {G : Gv} {L : List Nat} {q : MS}  (C : mC p s m av meth c cX11_token RX11 2 none) : ∀ (n : Nat) (x0 : Nat) (S : MS) (H : Heap) (locs : List Loc) (ls : Array Slot), (x0 < shM.1 ∧ shM.2.1 x0 = 11) → mW G shM L S A s H locs → lv_has ls 2 [(0, .ref (ad L x0))] → fX11_token_64  n x0 S = some q → W p l e (rmd (6)) s m av below meth c H locs 0 0 (MQ below (mQ G shM L q none A) av s 0 0 A) (F0 m 64 ls []) := by
  intro n
  induction n with
  | zero =>
    intro x0 S H locs ls hx0 hW hl hf
    rw [fX11_token_64] at hf
    cases hf
  | succ n ih =>
    intro x0 S H locs ls hx0 hW hl hf
    rw [fX11_token_64] at hf
    refine lv_aload_n C.1 C.2.1 dX11_token_64 rfl (lv_at hl 0 rfl) ?_
    obtain ⟨q12, h13, hf⟩ := bd hf
    refine m_callV (As := []) (rest := []) C hW hx0 (cX11_here_ok  hx0 h13) mlX11_175 (by decide) rfl hl.1 rfl (Nat.le_of_ble_eq_true rfl) (Nat.le_of_ble_eq_true rfl) (Nat.le_of_ble_eq_true rfl) dX11_token_65 (fun H locs hW => ?_)
    obtain ⟨q14, h15, hf⟩ := bd hf
    refine m_callS (As := [.int q12]) (rest := []) C hW (cX11_isSmall_ok   h15) mlX11_185 rfl hl.1 rfl (Nat.le_of_ble_eq_true rfl) (Nat.le_of_ble_eq_true rfl) (Nat.le_of_ble_eq_true rfl) dX11_token_68 (fun H locs hW => ?_)
    refine lv_if_eq (tgt := 87) C.1 C.2.1 dX11_token_71 rfl (fun c16 => ?_) (fun c16 => ?_)
    · have hf := (if_pos c16).symm.trans hf
      refine lv_aload_n C.1 C.2.1 dX11_token_87 rfl (lv_at hl 0 rfl) ?_
      refine lv_aload_n C.1 C.2.1 dX11_token_88 rfl (lv_at hl 0 rfl) ?_
      obtain ⟨q17, h18, hf⟩ := bd hf
      refine m_callV (As := []) (rest := [.ref (ad L x0)]) C hW hx0 (cX11_word_ok  hx0 h18) mlX11_189 (by decide) rfl hl.1 rfl (Nat.le_of_ble_eq_true rfl) (Nat.le_of_ble_eq_true rfl) (Nat.le_of_ble_eq_true rfl) dX11_token_89 (fun H locs hW => ?_)
      refine m_puti C hW hx0 fpX11_192 dX11_token_92 (fun H locs hW => ?_)
      refine lv_aload_n C.1 C.2.1 dX11_token_95 rfl (lv_at hl 0 rfl) ?_
      refine lv_aload_n C.1 C.2.1 dX11_token_96 rfl (lv_at hl 0 rfl) ?_
      refine m_geti C hW hx0 flX11_192 dX11_token_97 ?_
      refine lv_iconst C.1 C.2.1 dX11_token_100 ic_m1 ?_
      refine lv_icmp_eq (tgt := 108) C.1 C.2.1 dX11_token_101 rfl (fun c19 => ?_) (fun c19 => ?_)
      · have hf := (if_pos c19).symm.trans hf
        refine lv_aload_n C.1 C.2.1 dX11_token_108 rfl (lv_at hl 0 rfl) ?_
        refine m_geti C hW hx0 flX11_169 dX11_token_109 ?_
        refine lv_aload_n C.1 C.2.1 dX11_token_112 rfl (lv_at hl 0 rfl) ?_
        refine m_geti C hW hx0 flX11_179 dX11_token_113 ?_
        refine lv_isub C.1 C.2.1 dX11_token_116 ?_
        refine lv_bipush C.1 C.2.1 dX11_token_117 bp_6 ?_
        refine lv_icmp_le (tgt := 126) C.1 C.2.1 dX11_token_119 rfl (fun c20 => ?_) (fun c20 => ?_)
        · have hf := (if_pos c20).symm.trans hf
          refine lv_iconst C.1 C.2.1 dX11_token_126 ic_1 ?_
          exact kX11_token_127  C x0 x0 (1 : Int32) _ _ _ _ hx0 hx0 hW (lv_sub hl [0] rfl) hf
        · have hf := (if_neg c20).symm.trans hf
          refine lv_iconst C.1 C.2.1 dX11_token_122 ic_5 ?_
          refine lv_goto (tgt := 127) C.1 C.2.1 dX11_token_123 rfl ?_
          exact kX11_token_127  C x0 x0 (5 : Int32) _ _ _ _ hx0 hx0 hW (lv_sub hl [0] rfl) hf
      · have hf := (if_neg c19).symm.trans hf
        refine lv_iconst C.1 C.2.1 dX11_token_104 ic_0 ?_
        refine lv_goto (tgt := 127) C.1 C.2.1 dX11_token_105 rfl ?_
        exact kX11_token_127  C x0 x0 (0 : Int32) _ _ _ _ hx0 hx0 hW (lv_sub hl [0] rfl) hf
    · have hf := (if_neg c16).symm.trans hf
      refine lv_aload_n C.1 C.2.1 dX11_token_74 rfl (lv_at hl 0 rfl) ?_
      refine lv_dup C.1 C.2.1 dX11_token_75 rfl ?_
      refine m_geti C hW hx0 flX11_169 dX11_token_76 ?_
      refine lv_iconst C.1 C.2.1 dX11_token_79 ic_1 ?_
      refine lv_iadd C.1 C.2.1 dX11_token_80 ?_
      refine m_puti C hW hx0 fpX11_169 dX11_token_81 (fun H locs hW => ?_)
      refine lv_goto (tgt := 64) C.1 C.2.1 dX11_token_84 rfl ?_
      exact ih x0 _ _ _ _ hx0 hW (lv_sub hl [0] rfl) hf

set_option maxRecDepth 100000 in
theorem kX11_token_0 {p : Program} {l : Launch} {e : Env} {s : State} {m : MethodId} {av : Array Value} {below : List Frame} {meth : Method} {c : Code} {A : Nat → Prop} {G : Gv} {L : List Nat} {q : MS}  (C : mC p s m av meth c cX11_token RX11 2 none) : ∀ (n : Nat) (x0 : Nat) (S : MS) (H : Heap) (locs : List Loc) (ls : Array Slot), (x0 < shM.1 ∧ shM.2.1 x0 = 11) → mW G shM L S A s H locs → lv_has ls 2 [(0, .ref (ad L x0))] → fX11_token_0  n x0 S = some q → W p l e (rmd (6)) s m av below meth c H locs 0 0 (MQ below (mQ G shM L q none A) av s 0 0 A) (F0 m 0 ls []) := by
  intro n
  induction n with
  | zero =>
    intro x0 S H locs ls hx0 hW hl hf
    rw [fX11_token_0] at hf
    cases hf
  | succ n ih =>
    intro x0 S H locs ls hx0 hW hl hf
    rw [fX11_token_0] at hf
    refine lv_aload_n C.1 C.2.1 dX11_token_0 rfl (lv_at hl 0 rfl) ?_
    obtain ⟨q21, h22, hf⟩ := bd hf
    refine m_callV (As := []) (rest := []) C hW hx0 (cX11_here_ok  hx0 h22) mlX11_175 (by decide) rfl hl.1 rfl (Nat.le_of_ble_eq_true rfl) (Nat.le_of_ble_eq_true rfl) (Nat.le_of_ble_eq_true rfl) dX11_token_1 (fun H locs hW => ?_)
    refine lv_bipush C.1 C.2.1 dX11_token_4 bp_10 ?_
    refine lv_icmp_eq (tgt := 18) C.1 C.2.1 dX11_token_6 rfl (fun c23 => ?_) (fun c23 => ?_)
    · have hf := (if_pos c23).symm.trans hf
      exact kX11_token_18 ih C x0 _ _ _ _ hx0 hW (lv_sub hl [0] rfl) hf
    · have hf := (if_neg c23).symm.trans hf
      refine lv_aload_n C.1 C.2.1 dX11_token_9 rfl (lv_at hl 0 rfl) ?_
      obtain ⟨q24, h25, hf⟩ := bd hf
      refine m_callV (As := []) (rest := []) C hW hx0 (cX11_here_ok  hx0 h25) mlX11_175 (by decide) rfl hl.1 rfl (Nat.le_of_ble_eq_true rfl) (Nat.le_of_ble_eq_true rfl) (Nat.le_of_ble_eq_true rfl) dX11_token_10 (fun H locs hW => ?_)
      refine lv_bipush C.1 C.2.1 dX11_token_13 bp_32 ?_
      refine lv_icmp_ne (tgt := 31) C.1 C.2.1 dX11_token_15 rfl (fun c26 => ?_) (fun c26 => ?_)
      · have hf := (if_neg c26).symm.trans hf
        refine lv_aload_n C.1 C.2.1 dX11_token_31 rfl (lv_at hl 0 rfl) ?_
        refine lv_aload_n C.1 C.2.1 dX11_token_32 rfl (lv_at hl 0 rfl) ?_
        refine m_geti C hW hx0 flX11_169 dX11_token_33 ?_
        refine m_puti C hW hx0 fpX11_179 dX11_token_36 (fun H locs hW => ?_)
        refine lv_aload_n C.1 C.2.1 dX11_token_39 rfl (lv_at hl 0 rfl) ?_
        obtain ⟨q27, h28, hf⟩ := bd hf
        refine m_callV (As := []) (rest := []) C hW hx0 (cX11_here_ok  hx0 h28) mlX11_175 (by decide) rfl hl.1 rfl (Nat.le_of_ble_eq_true rfl) (Nat.le_of_ble_eq_true rfl) (Nat.le_of_ble_eq_true rfl) dX11_token_40 (fun H locs hW => ?_)
        refine lv_istore_n (lv' := [(1, .int q27), (0, .ref (ad L x0))]) C.1 C.2.1 dX11_token_43 rfl hl (by decide) rfl (fun ls hl => ?_)
        refine lv_iload_n C.1 C.2.1 dX11_token_44 rfl (lv_at hl 0 rfl) ?_
        refine lv_iconst C.1 C.2.1 dX11_token_45 ic_m1 ?_
        refine lv_icmp_ne (tgt := 57) C.1 C.2.1 dX11_token_46 rfl (fun c29 => ?_) (fun c29 => ?_)
        · have hf := (if_neg c29).symm.trans hf
          refine lv_iload_n C.1 C.2.1 dX11_token_57 rfl (lv_at hl 0 rfl) ?_
          obtain ⟨q30, h31, hf⟩ := bd hf
          refine m_callS (As := [.int q27]) (rest := []) C hW (cX11_isSmall_ok   h31) mlX11_185 rfl hl.1 rfl (Nat.le_of_ble_eq_true rfl) (Nat.le_of_ble_eq_true rfl) (Nat.le_of_ble_eq_true rfl) dX11_token_58 (fun H locs hW => ?_)
          refine lv_if_eq (tgt := 145) C.1 C.2.1 dX11_token_61 rfl (fun c32 => ?_) (fun c32 => ?_)
          · have hf := (if_pos c32).symm.trans hf
            refine lv_iload_n C.1 C.2.1 dX11_token_145 rfl (lv_at hl 0 rfl) ?_
            obtain ⟨q33, h34, hf⟩ := bd hf
            refine m_callS (As := [.int q27]) (rest := []) C hW (cX11_isDigit_ok   h34) mlX11_198 rfl hl.1 rfl (Nat.le_of_ble_eq_true rfl) (Nat.le_of_ble_eq_true rfl) (Nat.le_of_ble_eq_true rfl) dX11_token_146 (fun H locs hW => ?_)
            refine lv_if_eq (tgt := 220) C.1 C.2.1 dX11_token_149 rfl (fun c35 => ?_) (fun c35 => ?_)
            · have hf := (if_pos c35).symm.trans hf
              refine lv_aload_n C.1 C.2.1 dX11_token_220 rfl (lv_at hl 1 rfl) ?_
              refine lv_iload_n C.1 C.2.1 dX11_token_221 rfl (lv_at hl 0 rfl) ?_
              obtain ⟨q36, h37, hf⟩ := bd hf
              refine m_callV (As := [.int q27]) (rest := []) C hW hx0 (cX11_sign_ok  hx0 h37) mlX11_202 (by decide) rfl hl.1 rfl (Nat.le_of_ble_eq_true rfl) (Nat.le_of_ble_eq_true rfl) (Nat.le_of_ble_eq_true rfl) dX11_token_222 (fun H locs hW => ?_)
              cases hf
              exact m_vret C hW dX11_token_225
            · have hf := (if_neg c35).symm.trans hf
              refine lv_aload_n C.1 C.2.1 dX11_token_152 rfl (lv_at hl 1 rfl) ?_
              refine lv_iconst C.1 C.2.1 dX11_token_153 ic_2 ?_
              refine m_puti C hW hx0 fpX11_182 dX11_token_154 (fun H locs hW => ?_)
              refine lv_aload_n C.1 C.2.1 dX11_token_157 rfl (lv_at hl 1 rfl) ?_
              refine lv_iconst C.1 C.2.1 dX11_token_158 ic_0 ?_
              refine m_puti C hW hx0 fpX11_192 dX11_token_159 (fun H locs hW => ?_)
              exact kX11_token_162  C 1000 x0 _ _ _ _ hx0 hW (lv_sub hl [1] rfl) hf
          · have hf := (if_neg c32).symm.trans hf
            exact kX11_token_64  C 1000 x0 _ _ _ _ hx0 hW (lv_sub hl [1] rfl) hf
        · have hf := (if_pos c29).symm.trans hf
          refine lv_aload_n C.1 C.2.1 dX11_token_49 rfl (lv_at hl 1 rfl) ?_
          refine lv_iconst C.1 C.2.1 dX11_token_50 ic_4 ?_
          refine m_puti C hW hx0 fpX11_182 dX11_token_51 (fun H locs hW => ?_)
          refine lv_goto (tgt := 225) C.1 C.2.1 dX11_token_54 rfl ?_
          cases hf
          exact m_vret C hW dX11_token_225
      · have hf := (if_pos c26).symm.trans hf
        exact kX11_token_18 ih C x0 _ _ _ _ hx0 hW (lv_sub hl [0] rfl) hf

set_option maxRecDepth 100000 in
theorem cX11_token_ok {l : Launch} {G : Gv} {L : List Nat} {S : MS} {a0 : Nat} {q : MS} (ha0 : a0 < shM.1 ∧ shM.2.1 a0 = 11) (hf : fX11_token a0 S = some q) : Mt l yX11_token cX11_token 2 none (6) G shM L S [.ref (ad L a0)] none q := by
  refine m_enter (lv := [(0, .ref (ad L a0))]) (plainFor_of_name (by decide)) (Nat.le_of_ble_eq_true rfl) rfl ?_
  intro p e s m below meth c A ls C hW hl
  unfold fX11_token at hf
  exact kX11_token_0  C 1000 a0 _ _ _ _ ha0 hW (lv_sub hl [0] rfl) hf

