def fX11_falls_20  (x0 : Nat) (x1 : Int32) (x2 : Int32) (x3 : Int32) (S : MS) : Option MS := (fX11_lightFar x0 x1 x2 x3 (pI S x0 60 (1 : Int32))).bind fun q1 => (if gI q1.2 x0 61 = (-1 : Int32) then some q1.2 else (fX11_fallsBy x0 x1 (gI q1.2 x0 61) q1.1 x2 q1.2).bind fun q4 => some q4)
def fX11_falls (a0 : Nat) (a1 : Int32) (a2 : Int32) (a3 : Int32) (S : MS) : Option MS := (if bnd a1 (lnM (gR S a0 46)) = true then (if bnd a1 (lnM (gR (pI S a0 58 (gI S (gR S a0 46) a1.toNatClampNeg)) a0 47)) = true then fX11_falls_20  a0 a1 a2 a3 (pI (pI S a0 58 (gI S (gR S a0 46) a1.toNatClampNeg)) a0 59 (gI (pI S a0 58 (gI S (gR S a0 46) a1.toNatClampNeg)) (gR (pI S a0 58 (gI S (gR S a0 46) a1.toNatClampNeg)) a0 47) a1.toNatClampNeg)) else none) else none)
set_option maxRecDepth 100000 in
theorem kX11_falls_20 {p : Program} {l : Launch} {e : Env} {s : State} {m : MethodId} {av : Array Value} {below : List Frame} {meth : Method} {c : Code} {A : Nat → Prop} {G : Gv} {L : List Nat} {q : MS}  (C : mC p s m av meth c cX11_falls RX11 5 none) : ∀ (x0 : Nat) (x1 : Int32) (x2 : Int32) (x3 : Int32) (S : MS) (H : Heap) (locs : List Loc) (ls : Array Slot), (x0 < shM.1 ∧ shM.2.1 x0 = 11) → mW G shM L S A s H locs → lv_has ls 5 [(0, .ref (ad L x0)), (1, .int x1), (2, .int x2), (3, .int x3)] → fX11_falls_20  x0 x1 x2 x3 S = some q → W p l e (rmd 6) s m av below meth c H locs 0 0 (MQ below (mQ G shM L q none A) av s 0 0 A) (F0 m 20 ls []) := by
  intro x0 x1 x2 x3 S H locs ls hx0 hW hl hf
  unfold fX11_falls_20 at hf
  refine lv_aload_n C.1 C.2.1 dX11_falls_20 rfl (lv_at hl 0 rfl) ?_
  refine lv_iconst C.1 C.2.1 dX11_falls_21 ic_1 ?_
  refine m_putz C hW hx0 fpX11_403 rfl dX11_falls_22 (fun H locs hW => ?_)
  refine lv_aload_n C.1 C.2.1 dX11_falls_25 rfl (lv_at hl 0 rfl) ?_
  refine lv_iload_n C.1 C.2.1 dX11_falls_26 rfl (lv_at hl 1 rfl) ?_
  refine lv_iload_n C.1 C.2.1 dX11_falls_27 rfl (lv_at hl 2 rfl) ?_
  refine lv_iload_n C.1 C.2.1 dX11_falls_28 rfl (lv_at hl 3 rfl) ?_
  obtain ⟨q1, h2, hf⟩ := bd hf
  refine m_callV (As := [.int x1, .int x2, .int x3]) (rest := []) C hW hx0 (cX11_lightFar_ok hx0 h2) mlX11_418 (by decide) rfl hl.1 rfl (Nat.le_of_ble_eq_true rfl) (Nat.le_of_ble_eq_true rfl) (Nat.le_of_ble_eq_true rfl) dX11_falls_29 (fun H locs hW => ?_)
  refine lv_istore (lv' := [(4, .int q1.1), (0, .ref (ad L x0)), (1, .int x1), (2, .int x2), (3, .int x3)]) C.1 C.2.1 dX11_falls_32 hl (by decide) rfl (fun ls hl => ?_)
  refine lv_aload_n C.1 C.2.1 dX11_falls_34 rfl (lv_at hl 1 rfl) ?_
  refine m_geti C hW hx0 flX11_406 dX11_falls_35 ?_
  refine lv_iconst C.1 C.2.1 dX11_falls_38 ic_m1 ?_
  refine lv_icmp_eq (tgt := 54) C.1 C.2.1 dX11_falls_39 rfl (fun c3 => ?_) (fun c3 => ?_)
  · have hf := (if_pos c3).symm.trans hf
    cases hf
    exact m_vret C hW dX11_falls_54
  · have hf := (if_neg c3).symm.trans hf
    refine lv_aload_n C.1 C.2.1 dX11_falls_42 rfl (lv_at hl 1 rfl) ?_
    refine lv_iload_n C.1 C.2.1 dX11_falls_43 rfl (lv_at hl 2 rfl) ?_
    refine lv_aload_n C.1 C.2.1 dX11_falls_44 rfl (lv_at hl 1 rfl) ?_
    refine m_geti C hW hx0 flX11_406 dX11_falls_45 ?_
    refine lv_iload C.1 C.2.1 dX11_falls_48 (lv_at hl 0 rfl) ?_
    refine lv_iload_n C.1 C.2.1 dX11_falls_50 rfl (lv_at hl 3 rfl) ?_
    obtain ⟨q4, h5, hf⟩ := bd hf
    refine m_callV (As := [.int x1, .int (gI q1.2 x0 61), .int q1.1, .int x2]) (rest := []) C hW hx0 (cX11_fallsBy_ok hx0 h5) mlX11_422 (by decide) rfl hl.1 rfl (Nat.le_of_ble_eq_true rfl) (Nat.le_of_ble_eq_true rfl) (Nat.le_of_ble_eq_true rfl) dX11_falls_51 (fun H locs hW => ?_)
    cases hf
    exact m_vret C hW dX11_falls_54

set_option maxRecDepth 100000 in
theorem cX11_falls_ok {l : Launch} {G : Gv} {L : List Nat} {S : MS} {a0 : Nat} {a1 : Int32} {a2 : Int32} {a3 : Int32} {q : MS} (ha0 : a0 < shM.1 ∧ shM.2.1 a0 = 11) (hf : fX11_falls a0 a1 a2 a3 S = some q) : Mt l yX11_falls cX11_falls 5 none 6 G shM L S [.ref (ad L a0), .int a1, .int a2, .int a3] none q := by
  refine m_enter (lv := [(0, .ref (ad L a0)), (1, .int a1), (2, .int a2), (3, .int a3)]) (plainFor_of_name (by decide)) (Nat.le_of_ble_eq_true rfl) rfl ?_
  intro p e s m below meth c A ls C hW hl
  unfold fX11_falls at hf
  refine lv_aload_n C.1 C.2.1 dX11_falls_0 rfl (lv_at hl 0 rfl) ?_
  refine lv_aload_n C.1 C.2.1 dX11_falls_1 rfl (lv_at hl 0 rfl) ?_
  refine m_getr C hW ha0 flX11_102 (by decide) dX11_falls_2 (fun hk6 => ?_)
  refine lv_iload_n C.1 C.2.1 dX11_falls_5 rfl (lv_at hl 1 rfl) ?_
  obtain ⟨hb7, hf⟩ := gd hf
  refine m_iald C hW hk6 hb7 dX11_falls_6 ?_
  refine m_puti C hW ha0 fpX11_387 dX11_falls_7 (fun H locs hW => ?_)
  refine lv_aload_n C.1 C.2.1 dX11_falls_10 rfl (lv_at hl 0 rfl) ?_
  refine lv_aload_n C.1 C.2.1 dX11_falls_11 rfl (lv_at hl 0 rfl) ?_
  refine m_getr C hW ha0 flX11_105 (by decide) dX11_falls_12 (fun hk8 => ?_)
  refine lv_iload_n C.1 C.2.1 dX11_falls_15 rfl (lv_at hl 1 rfl) ?_
  obtain ⟨hb9, hf⟩ := gd hf
  refine m_iald C hW hk8 hb9 dX11_falls_16 ?_
  refine m_puti C hW ha0 fpX11_393 dX11_falls_17 (fun H locs hW => ?_)
  exact kX11_falls_20  C a0 a1 a2 a3 _ _ _ _ ha0 hW (lv_sub hl [0, 1, 2, 3] rfl) hf

def fX11_triesStep (a0 : Nat) (a1 : Int32) (a2 : Int32) (S : MS) : Option MS := (fX11_canStep a0 a1 a2 S).bind fun q1 => (if q1 = (0 : Int32) then (if bnd a1 (lnM (gR S a0 45)) = true then (if bnd a1 (lnM (gR S a0 45)) = true then some (pI S (gR S a0 45) a1.toNatClampNeg ((gI S (gR S a0 45) a1.toNatClampNeg) + (1 : Int32))) else none) else none) else (fX11_stepsBy a0 a1 a2 S).bind fun q7 => some q7)
set_option maxRecDepth 100000 in
theorem cX11_triesStep_ok {l : Launch} {G : Gv} {L : List Nat} {S : MS} {a0 : Nat} {a1 : Int32} {a2 : Int32} {q : MS} (ha0 : a0 < shM.1 ∧ shM.2.1 a0 = 11) (hf : fX11_triesStep a0 a1 a2 S = some q) : Mt l yX11_triesStep cX11_triesStep 3 none 6 G shM L S [.ref (ad L a0), .int a1, .int a2] none q := by
  refine m_enter (lv := [(0, .ref (ad L a0)), (1, .int a1), (2, .int a2)]) (plainFor_of_name (by decide)) (Nat.le_of_ble_eq_true rfl) rfl ?_
  intro p e s m below meth c A ls C hW hl
  unfold fX11_triesStep at hf
  refine lv_aload_n C.1 C.2.1 dX11_triesStep_0 rfl (lv_at hl 0 rfl) ?_
  refine lv_iload_n C.1 C.2.1 dX11_triesStep_1 rfl (lv_at hl 1 rfl) ?_
  refine lv_iload_n C.1 C.2.1 dX11_triesStep_2 rfl (lv_at hl 2 rfl) ?_
  obtain ⟨q1, h2, hf⟩ := bd hf
  refine m_callV (As := [.int a1, .int a2]) (rest := []) C hW ha0 (cX11_canStep_ok ha0 h2) mlX11_435 (by decide) rfl hl.1 rfl (Nat.le_of_ble_eq_true rfl) (Nat.le_of_ble_eq_true rfl) (Nat.le_of_ble_eq_true rfl) dX11_triesStep_3 (fun H locs hW => ?_)
  refine lv_if_eq (tgt := 18) C.1 C.2.1 dX11_triesStep_6 rfl (fun c3 => ?_) (fun c3 => ?_)
  · have hf := (if_pos c3).symm.trans hf
    refine lv_aload_n C.1 C.2.1 dX11_triesStep_18 rfl (lv_at hl 0 rfl) ?_
    refine m_getr C hW ha0 flX11_99 (by decide) dX11_triesStep_19 (fun hk4 => ?_)
    refine lv_iload_n C.1 C.2.1 dX11_triesStep_22 rfl (lv_at hl 1 rfl) ?_
    refine lv_dup2_11 C.1 C.2.1 dX11_triesStep_23 rfl rfl ?_
    obtain ⟨hb5, hf⟩ := gd hf
    refine m_iald C hW hk4 hb5 dX11_triesStep_24 ?_
    refine lv_iconst C.1 C.2.1 dX11_triesStep_25 ic_1 ?_
    refine lv_iadd C.1 C.2.1 dX11_triesStep_26 ?_
    obtain ⟨hb6, hf⟩ := gd hf
    refine m_iast C hW hk4 hb6 dX11_triesStep_27 (fun H locs hW => ?_)
    cases hf
    exact m_vret C hW dX11_triesStep_28
  · have hf := (if_neg c3).symm.trans hf
    refine lv_aload_n C.1 C.2.1 dX11_triesStep_9 rfl (lv_at hl 0 rfl) ?_
    refine lv_iload_n C.1 C.2.1 dX11_triesStep_10 rfl (lv_at hl 1 rfl) ?_
    refine lv_iload_n C.1 C.2.1 dX11_triesStep_11 rfl (lv_at hl 2 rfl) ?_
    obtain ⟨q7, h8, hf⟩ := bd hf
    refine m_callV (As := [.int a1, .int a2]) (rest := []) C hW ha0 (cX11_stepsBy_ok ha0 h8) mlX11_438 (by decide) rfl hl.1 rfl (Nat.le_of_ble_eq_true rfl) (Nat.le_of_ble_eq_true rfl) (Nat.le_of_ble_eq_true rfl) dX11_triesStep_12 (fun H locs hW => ?_)
    refine lv_goto (tgt := 28) C.1 C.2.1 dX11_triesStep_15 rfl ?_
    cases hf
    exact m_vret C hW dX11_triesStep_28

def fX11_step (a0 : Nat) (a1 : Int32) (S : MS) : Option (Int32 × MS) := (if a1 < (0 : Int32) then some ((-1 : Int32), pI S a0 0 (0 : Int32)) else (if a1 ≤ (3 : Int32) then (fX11_canStep a0 (0 : Int32) a1 (pI S a0 0 (0 : Int32))).bind fun q3 => (if q3 = (0 : Int32) then some ((-2 : Int32), pI S a0 0 (0 : Int32)) else (fX11_keepNow a0 (pI S a0 0 (0 : Int32))).bind fun q6 => (fX11_stepsBy a0 (0 : Int32) a1 q6).bind fun q8 => (if bnd (0 : Int32) (lnM (gR q8 a0 48)) = true then some (gI q8 (gR q8 a0 48) (0 : Int32).toNatClampNeg, q8) else none)) else some ((-1 : Int32), pI S a0 0 (0 : Int32))))
set_option maxRecDepth 100000 in
theorem cX11_step_ok {l : Launch} {G : Gv} {L : List Nat} {S : MS} {a0 : Nat} {a1 : Int32} {q : (Int32 × MS)} (ha0 : a0 < shM.1 ∧ shM.2.1 a0 = 11) (hf : fX11_step a0 a1 S = some q) : Mt l yX11_step cX11_step 2 (some .int) 6 G shM L S [.ref (ad L a0), .int a1] (some (.int q.1)) q.2 := by
  refine m_enter (lv := [(0, .ref (ad L a0)), (1, .int a1)]) (plainFor_of_name (by decide)) (Nat.le_of_ble_eq_true rfl) rfl ?_
  intro p e s m below meth c A ls C hW hl
  unfold fX11_step at hf
  refine lv_aload_n C.1 C.2.1 dX11_step_0 rfl (lv_at hl 0 rfl) ?_
  refine lv_iconst C.1 C.2.1 dX11_step_1 ic_0 ?_
  refine m_puti C hW ha0 fpX11_163 dX11_step_2 (fun H locs hW => ?_)
  refine lv_iload_n C.1 C.2.1 dX11_step_5 rfl (lv_at hl 1 rfl) ?_
  refine lv_if_lt (tgt := 14) C.1 C.2.1 dX11_step_6 rfl (fun c1 => ?_) (fun c1 => ?_)
  · have hf := (if_pos c1).symm.trans hf
    refine lv_iconst C.1 C.2.1 dX11_step_14 ic_m1 ?_
    cases hf
    exact m_iret C hW dX11_step_15
  · have hf := (if_neg c1).symm.trans hf
    refine lv_iload_n C.1 C.2.1 dX11_step_9 rfl (lv_at hl 1 rfl) ?_
    refine lv_iconst C.1 C.2.1 dX11_step_10 ic_3 ?_
    refine lv_icmp_le (tgt := 16) C.1 C.2.1 dX11_step_11 rfl (fun c2 => ?_) (fun c2 => ?_)
    · have hf := (if_pos c2).symm.trans hf
      refine lv_aload_n C.1 C.2.1 dX11_step_16 rfl (lv_at hl 0 rfl) ?_
      refine lv_iconst C.1 C.2.1 dX11_step_17 ic_0 ?_
      refine lv_iload_n C.1 C.2.1 dX11_step_18 rfl (lv_at hl 1 rfl) ?_
      obtain ⟨q3, h4, hf⟩ := bd hf
      refine m_callV (As := [.int (0 : Int32), .int a1]) (rest := []) C hW ha0 (cX11_canStep_ok ha0 h4) mlX11_435 (by decide) rfl hl.1 rfl (Nat.le_of_ble_eq_true rfl) (Nat.le_of_ble_eq_true rfl) (Nat.le_of_ble_eq_true rfl) dX11_step_19 (fun H locs hW => ?_)
      refine lv_if_ne (tgt := 28) C.1 C.2.1 dX11_step_22 rfl (fun c5 => ?_) (fun c5 => ?_)
      · have hf := (if_neg c5).symm.trans hf
        refine lv_aload_n C.1 C.2.1 dX11_step_28 rfl (lv_at hl 0 rfl) ?_
        obtain ⟨q6, h7, hf⟩ := bd hf
        refine m_callV (As := []) (rest := []) C hW ha0 (cX11_keepNow_ok ha0 h7) mlX11_491 (by decide) rfl hl.1 rfl (Nat.le_of_ble_eq_true rfl) (Nat.le_of_ble_eq_true rfl) (Nat.le_of_ble_eq_true rfl) dX11_step_29 (fun H locs hW => ?_)
        refine lv_aload_n C.1 C.2.1 dX11_step_32 rfl (lv_at hl 0 rfl) ?_
        refine lv_iconst C.1 C.2.1 dX11_step_33 ic_0 ?_
        refine lv_iload_n C.1 C.2.1 dX11_step_34 rfl (lv_at hl 1 rfl) ?_
        obtain ⟨q8, h9, hf⟩ := bd hf
        refine m_callV (As := [.int (0 : Int32), .int a1]) (rest := []) C hW ha0 (cX11_stepsBy_ok ha0 h9) mlX11_438 (by decide) rfl hl.1 rfl (Nat.le_of_ble_eq_true rfl) (Nat.le_of_ble_eq_true rfl) (Nat.le_of_ble_eq_true rfl) dX11_step_35 (fun H locs hW => ?_)
        refine lv_aload_n C.1 C.2.1 dX11_step_38 rfl (lv_at hl 0 rfl) ?_
        refine m_getr C hW ha0 flX11_108 (by decide) dX11_step_39 (fun hk10 => ?_)
        refine lv_iconst C.1 C.2.1 dX11_step_42 ic_0 ?_
        obtain ⟨hb11, hf⟩ := gd hf
        refine m_iald C hW hk10 hb11 dX11_step_43 ?_
        cases hf
        exact m_iret C hW dX11_step_44
      · have hf := (if_pos c5).symm.trans hf
        refine lv_bipush C.1 C.2.1 dX11_step_25 bp_m2 ?_
        cases hf
        exact m_iret C hW dX11_step_27
    · have hf := (if_neg c2).symm.trans hf
      refine lv_iconst C.1 C.2.1 dX11_step_14 ic_m1 ?_
      cases hf
      exact m_iret C hW dX11_step_15

