def fX10_way (a0 : Nat) (a1 : Int32) (a2 : Int32) (S : MS) : Option (Int32 × MS) := (fX8_isCell  (gR S a0 1) a1 a2 S).bind fun q2 => (if q2 = (0 : Int32) then some ((-1 : Int32), S) else (fX3_fewest  (gR S a0 6) (gR S a0 1) (((gI S (gR S a0 9) 4) * (8 : Int32)) + (gI S (gR S a0 9) 5)) ((a1 * (8 : Int32)) + a2) S).bind fun q9 => (if q9.1 = (-1 : Int32) then some ((-2 : Int32), q9.2) else some (q9.1, q9.2)))
set_option maxRecDepth 100000 in
theorem cX10_way_ok {l : Launch} {G : Gv} {L : List Nat} {S : MS} {a0 : Nat} {a1 : Int32} {a2 : Int32} {q : (Int32 × MS)} (ha0 : a0 < shX.1 ∧ shX.2.1 a0 = 10) (hf : fX10_way a0 a1 a2 S = some q) : Mt l yX10_way cX10_way 4 (some .int) (4) G shX L S [.ref (ad L a0), .int a1, .int a2] (some (.int q.1)) q.2 := by
  refine m_enter (lv := [(0, .ref (ad L a0)), (1, .int a1), (2, .int a2)]) (plainFor_of_name (by decide)) (Nat.le_of_ble_eq_true rfl) rfl ?_
  intro p e s m below meth c A ls C hW hl
  unfold fX10_way at hf
  refine lv_aload_n C.1 C.2.1 dX10_way_0 rfl (lv_at hl 0 rfl) ?_
  refine m_getr C hW ha0 flX10_16 (by decide) dX10_way_1 (fun hk1 => ?_)
  refine lv_iload_n C.1 C.2.1 dX10_way_4 rfl (lv_at hl 1 rfl) ?_
  refine lv_iload_n C.1 C.2.1 dX10_way_5 rfl (lv_at hl 2 rfl) ?_
  obtain ⟨q2, h3, hf⟩ := bd hf
  refine m_callV (As := [.int a1, .int a2]) (rest := []) C hW hk1 (cX8_isCell_ok  hk1 h3) mlX10_221 (by decide) rfl hl.1 rfl (Nat.le_of_ble_eq_true rfl) (Nat.le_of_ble_eq_true rfl) (Nat.le_of_ble_eq_true rfl) dX10_way_6 (fun H locs hW => ?_)
  refine lv_if_ne (tgt := 14) C.1 C.2.1 dX10_way_9 rfl (fun c4 => ?_) (fun c4 => ?_)
  · have hf := (if_neg c4).symm.trans hf
    refine lv_aload_n C.1 C.2.1 dX10_way_14 rfl (lv_at hl 0 rfl) ?_
    refine m_getr C hW ha0 flX10_51 (by decide) dX10_way_15 (fun hk5 => ?_)
    refine lv_aload_n C.1 C.2.1 dX10_way_18 rfl (lv_at hl 0 rfl) ?_
    refine m_getr C hW ha0 flX10_16 (by decide) dX10_way_19 (fun hk6 => ?_)
    refine lv_aload_n C.1 C.2.1 dX10_way_22 rfl (lv_at hl 0 rfl) ?_
    refine m_getr C hW ha0 flX10_72 (by decide) dX10_way_23 (fun hk7 => ?_)
    refine m_geti C hW hk7 flX10_161 dX10_way_26 ?_
    refine lv_bipush C.1 C.2.1 dX10_way_29 bp_8 ?_
    refine lv_imul C.1 C.2.1 dX10_way_31 ?_
    refine lv_aload_n C.1 C.2.1 dX10_way_32 rfl (lv_at hl 0 rfl) ?_
    refine m_getr C hW ha0 flX10_72 (by decide) dX10_way_33 (fun hk8 => ?_)
    refine m_geti C hW hk8 flX10_164 dX10_way_36 ?_
    refine lv_iadd C.1 C.2.1 dX10_way_39 ?_
    refine lv_iload_n C.1 C.2.1 dX10_way_40 rfl (lv_at hl 1 rfl) ?_
    refine lv_bipush C.1 C.2.1 dX10_way_41 bp_8 ?_
    refine lv_imul C.1 C.2.1 dX10_way_43 ?_
    refine lv_iload_n C.1 C.2.1 dX10_way_44 rfl (lv_at hl 2 rfl) ?_
    refine lv_iadd C.1 C.2.1 dX10_way_45 ?_
    obtain ⟨q9, h10, hf⟩ := bd hf
    refine m_callV (As := [.ref (ad L (gR S a0 1)), .int (((gI S (gR S a0 9) 4) * (8 : Int32)) + (gI S (gR S a0 9) 5)), .int ((a1 * (8 : Int32)) + a2)]) (rest := []) C hW hk5 (cX3_fewest_ok  hk5 hk6 h10) mlX10_289 (by decide) rfl hl.1 rfl (Nat.le_of_ble_eq_true rfl) (Nat.le_of_ble_eq_true rfl) (Nat.le_of_ble_eq_true rfl) dX10_way_46 (fun H locs hW => ?_)
    refine lv_istore_n (lv' := [(3, .int q9.1), (0, .ref (ad L a0)), (1, .int a1), (2, .int a2)]) C.1 C.2.1 dX10_way_49 rfl hl (by decide) rfl (fun ls hl => ?_)
    refine lv_iload_n C.1 C.2.1 dX10_way_50 rfl (lv_at hl 0 rfl) ?_
    refine lv_iconst C.1 C.2.1 dX10_way_51 ic_m1 ?_
    refine lv_icmp_ne (tgt := 60) C.1 C.2.1 dX10_way_52 rfl (fun c11 => ?_) (fun c11 => ?_)
    · have hf := (if_neg c11).symm.trans hf
      refine lv_iload_n C.1 C.2.1 dX10_way_60 rfl (lv_at hl 0 rfl) ?_
      cases hf
      exact m_iret C hW dX10_way_61
    · have hf := (if_pos c11).symm.trans hf
      refine lv_bipush C.1 C.2.1 dX10_way_55 bp_m2 ?_
      refine lv_goto (tgt := 61) C.1 C.2.1 dX10_way_57 rfl ?_
      cases hf
      exact m_iret C hW dX10_way_61
  · have hf := (if_pos c4).symm.trans hf
    refine lv_iconst C.1 C.2.1 dX10_way_12 ic_m1 ?_
    cases hf
    exact m_iret C hW dX10_way_13

def fX10_out (a0 : Nat) (a1 : Int32) (S : MS) : Option (Int32 × MS) := (fX6_strike  (gR S a0 8) a1 S).bind fun q2 => some (q2.1, q2.2)
set_option maxRecDepth 100000 in
theorem cX10_out_ok {l : Launch} {G : Gv} {L : List Nat} {S : MS} {a0 : Nat} {a1 : Int32} {q : (Int32 × MS)} (ha0 : a0 < shX.1 ∧ shX.2.1 a0 = 10) (hf : fX10_out a0 a1 S = some q) : Mt l yX10_out cX10_out 2 (some .int) (4) G shX L S [.ref (ad L a0), .int a1] (some (.int q.1)) q.2 := by
  refine m_enter (lv := [(0, .ref (ad L a0)), (1, .int a1)]) (plainFor_of_name (by decide)) (Nat.le_of_ble_eq_true rfl) rfl ?_
  intro p e s m below meth c A ls C hW hl
  unfold fX10_out at hf
  refine lv_aload_n C.1 C.2.1 dX10_out_0 rfl (lv_at hl 0 rfl) ?_
  refine m_getr C hW ha0 flX10_65 (by decide) dX10_out_1 (fun hk1 => ?_)
  refine lv_iload_n C.1 C.2.1 dX10_out_4 rfl (lv_at hl 1 rfl) ?_
  obtain ⟨q2, h3, hf⟩ := bd hf
  refine m_callV (As := [.int a1]) (rest := []) C hW hk1 (cX6_strike_ok  hk1 h3) mlX10_338 (by decide) rfl hl.1 rfl (Nat.le_of_ble_eq_true rfl) (Nat.le_of_ble_eq_true rfl) (Nat.le_of_ble_eq_true rfl) dX10_out_5 (fun H locs hW => ?_)
  cases hf
  exact m_iret C hW dX10_out_8

def fX5_begin_67  (x0 : Nat) (S : MS) : Option MS := (fX5_next  x0 S).bind fun q1 => some q1
def fX5_begin_25  (x0 : Nat) (x3 : Nat) (S : MS) : Option MS := (fX8_clean  (gR (pR S x0 9 x3) x0 9) (pR S x0 9 x3)).bind fun q4 => fX5_begin_67  x0 (pI (pI (pI (pI (pI (pI q4 x0 13 (0 : Int32)) x0 14 (0 : Int32)) x0 15 (0 : Int32)) x0 16 (0 : Int32)) x0 17 (-1 : Int32)) x0 18 (0 : Int32))
def fX5_begin (a0 : Nat) (a1 : Nat) (a2 : Int32) (a3 : Nat) (S : MS) : Option MS := fX5_begin_25  a0 a3 (pI (pI (pI (pR S a0 2 a1) a0 3 (if (Int32.ofNat (lnX a1)) < a2 then (Int32.ofNat (lnX a1)) else a2)) a0 4 (0 : Int32)) a0 7 (0 : Int32))
set_option maxRecDepth 100000 in
theorem kX5_begin_67 {p : Program} {l : Launch} {e : Env} {s : State} {m : MethodId} {av : Array Value} {below : List Frame} {meth : Method} {c : Code} {A : Nat → Prop} {G : Gv} {L : List Nat} {q : MS}  (C : mC p s m av meth c cX5_begin RX5 4 none) : ∀ (x0 : Nat) (S : MS) (H : Heap) (locs : List Loc) (ls : Array Slot), (x0 < shX.1 ∧ shX.2.1 x0 = 5) → mW G shX L S A s H locs → lv_has ls 4 [(0, .ref (ad L x0))] → fX5_begin_67  x0 S = some q → W p l e (rmd (4)) s m av below meth c H locs 0 0 (MQ below (mQ G shX L q none A) av s 0 0 A) (F0 m 67 ls []) := by
  intro x0 S H locs ls hx0 hW hl hf
  unfold fX5_begin_67 at hf
  refine lv_aload_n C.1 C.2.1 dX5_begin_67 rfl (lv_at hl 0 rfl) ?_
  obtain ⟨q1, h2, hf⟩ := bd hf
  refine m_callV (As := []) (rest := []) C hW hx0 (cX5_next_ok  hx0 h2) mlX5_87 (by decide) rfl hl.1 rfl (Nat.le_of_ble_eq_true rfl) (Nat.le_of_ble_eq_true rfl) (Nat.le_of_ble_eq_true rfl) dX5_begin_68 (fun H locs hW => ?_)
  cases hf
  exact m_vret C hW dX5_begin_71

set_option maxRecDepth 100000 in
theorem kX5_begin_25 {p : Program} {l : Launch} {e : Env} {s : State} {m : MethodId} {av : Array Value} {below : List Frame} {meth : Method} {c : Code} {A : Nat → Prop} {G : Gv} {L : List Nat} {q : MS}  (C : mC p s m av meth c cX5_begin RX5 4 none) : ∀ (x0 : Nat) (x3 : Nat) (S : MS) (H : Heap) (locs : List Loc) (ls : Array Slot), (x0 < shX.1 ∧ shX.2.1 x0 = 5) → (x3 < shX.1 ∧ shX.2.1 x3 = 8) → mW G shX L S A s H locs → lv_has ls 4 [(0, .ref (ad L x0)), (3, .ref (ad L x3))] → fX5_begin_25  x0 x3 S = some q → W p l e (rmd (4)) s m av below meth c H locs 0 0 (MQ below (mQ G shX L q none A) av s 0 0 A) (F0 m 25 ls []) := by
  intro x0 x3 S H locs ls hx0 hx3 hW hl hf
  unfold fX5_begin_25 at hf
  refine lv_aload_n C.1 C.2.1 dX5_begin_25 rfl (lv_at hl 0 rfl) ?_
  refine lv_aload_n C.1 C.2.1 dX5_begin_26 rfl (lv_at hl 1 rfl) ?_
  refine m_putr C hW hx0 fpX5_24 (by decide) (Or.inl ⟨_, rfl⟩) hx3 dX5_begin_27 (fun H locs hW => ?_)
  refine lv_aload_n C.1 C.2.1 dX5_begin_30 rfl (lv_at hl 0 rfl) ?_
  refine m_getr C hW hx0 flX5_24 (by decide) dX5_begin_31 (fun hk3 => ?_)
  obtain ⟨q4, h5, hf⟩ := bd hf
  refine m_callV (As := []) (rest := []) C hW hk3 (cX8_clean_ok  hk3 h5) mlX5_65 (by decide) rfl hl.1 rfl (Nat.le_of_ble_eq_true rfl) (Nat.le_of_ble_eq_true rfl) (Nat.le_of_ble_eq_true rfl) dX5_begin_34 (fun H locs hW => ?_)
  refine lv_aload_n C.1 C.2.1 dX5_begin_37 rfl (lv_at hl 0 rfl) ?_
  refine lv_iconst C.1 C.2.1 dX5_begin_38 ic_0 ?_
  refine m_putz C hW hx0 fpX5_68 rfl dX5_begin_39 (fun H locs hW => ?_)
  refine lv_aload_n C.1 C.2.1 dX5_begin_42 rfl (lv_at hl 0 rfl) ?_
  refine lv_iconst C.1 C.2.1 dX5_begin_43 ic_0 ?_
  refine m_putz C hW hx0 fpX5_72 rfl dX5_begin_44 (fun H locs hW => ?_)
  refine lv_aload_n C.1 C.2.1 dX5_begin_47 rfl (lv_at hl 0 rfl) ?_
  refine lv_iconst C.1 C.2.1 dX5_begin_48 ic_0 ?_
  refine m_putz C hW hx0 fpX5_75 rfl dX5_begin_49 (fun H locs hW => ?_)
  refine lv_aload_n C.1 C.2.1 dX5_begin_52 rfl (lv_at hl 0 rfl) ?_
  refine lv_iconst C.1 C.2.1 dX5_begin_53 ic_0 ?_
  refine m_puti C hW hx0 fpX5_78 dX5_begin_54 (fun H locs hW => ?_)
  refine lv_aload_n C.1 C.2.1 dX5_begin_57 rfl (lv_at hl 0 rfl) ?_
  refine lv_iconst C.1 C.2.1 dX5_begin_58 ic_m1 ?_
  refine m_puti C hW hx0 fpX5_81 dX5_begin_59 (fun H locs hW => ?_)
  refine lv_aload_n C.1 C.2.1 dX5_begin_62 rfl (lv_at hl 0 rfl) ?_
  refine lv_iconst C.1 C.2.1 dX5_begin_63 ic_0 ?_
  refine m_puti C hW hx0 fpX5_84 dX5_begin_64 (fun H locs hW => ?_)
  exact kX5_begin_67  C x0 _ _ _ _ hx0 hW (lv_sub hl [0] rfl) hf

set_option maxRecDepth 100000 in
theorem cX5_begin_ok {l : Launch} {G : Gv} {L : List Nat} {S : MS} {a0 : Nat} {a1 : Nat} {a2 : Int32} {a3 : Nat} {q : MS} (ha0 : a0 < shX.1 ∧ shX.2.1 a0 = 5) (ha1 : a1 < shX.1 ∧ shX.2.1 a1 = 12) (ha3 : a3 < shX.1 ∧ shX.2.1 a3 = 8) (hf : fX5_begin a0 a1 a2 a3 S = some q) : Mt l yX5_begin cX5_begin 4 none (4) G shX L S [.ref (ad L a0), .ref (ad L a1), .int a2, .ref (ad L a3)] none q := by
  refine m_enter (lv := [(0, .ref (ad L a0)), (1, .ref (ad L a1)), (2, .int a2), (3, .ref (ad L a3))]) (plainFor_of_name (by decide)) (Nat.le_of_ble_eq_true rfl) rfl ?_
  intro p e s m below meth c A ls C hW hl
  unfold fX5_begin at hf
  refine lv_aload_n C.1 C.2.1 dX5_begin_0 rfl (lv_at hl 0 rfl) ?_
  refine lv_aload_n C.1 C.2.1 dX5_begin_1 rfl (lv_at hl 1 rfl) ?_
  refine m_putr C hW ha0 fpX5_20 (by decide) (Or.inr ⟨_, rfl⟩) ha1 dX5_begin_2 (fun H locs hW => ?_)
  refine lv_aload_n C.1 C.2.1 dX5_begin_5 rfl (lv_at hl 0 rfl) ?_
  refine lv_iload_n C.1 C.2.1 dX5_begin_6 rfl (lv_at hl 2 rfl) ?_
  refine lv_aload_n C.1 C.2.1 dX5_begin_7 rfl (lv_at hl 1 rfl) ?_
  refine m_alen C hW ha1 (by decide) dX5_begin_8 ?_
  refine va_mmin C.1 C.2.1 (C.2.2.1.trans hl.1.symm) C.2.2.2.1 (C.2.2.2.2.1 _ kw_695) (C.2.2.2.2.1 _ kw_696) (C.2.2.2.2.1 _ kw_135) (C.2.2.2.2.1 _ kw_697) (Nat.le_of_ble_eq_true rfl) (Nat.le_of_ble_eq_true rfl) (Nat.le_refl 0) (Nat.le_refl 0) dX5_begin_9 ?_
  refine m_puti C hW ha0 fpX5_56 dX5_begin_12 (fun H locs hW => ?_)
  refine lv_aload_n C.1 C.2.1 dX5_begin_15 rfl (lv_at hl 0 rfl) ?_
  refine lv_iconst C.1 C.2.1 dX5_begin_16 ic_0 ?_
  refine m_puti C hW ha0 fpX5_59 dX5_begin_17 (fun H locs hW => ?_)
  refine lv_aload_n C.1 C.2.1 dX5_begin_20 rfl (lv_at hl 0 rfl) ?_
  refine lv_iconst C.1 C.2.1 dX5_begin_21 ic_0 ?_
  refine m_puti C hW ha0 fpX5_62 dX5_begin_22 (fun H locs hW => ?_)
  exact kX5_begin_25  C a0 a3 _ _ _ _ ha0 ha3 hW (lv_sub hl [0, 3] rfl) hf

def fX5_expect (a0 : Nat) (a1 : Int32) (S : MS) : Option MS := (if gI S a0 5 = a1 then (fX5_next  a0 S).bind fun q4 => some q4 else (fX5_fail  a0 (1 : Int32) (gI S a0 7) S).bind fun q2 => some q2)
set_option maxRecDepth 100000 in
theorem cX5_expect_ok {l : Launch} {G : Gv} {L : List Nat} {S : MS} {a0 : Nat} {a1 : Int32} {q : MS} (ha0 : a0 < shX.1 ∧ shX.2.1 a0 = 5) (hf : fX5_expect a0 a1 S = some q) : Mt l yX5_expect cX5_expect 2 none (4) G shX L S [.ref (ad L a0), .int a1] none q := by
  refine m_enter (lv := [(0, .ref (ad L a0)), (1, .int a1)]) (plainFor_of_name (by decide)) (Nat.le_of_ble_eq_true rfl) rfl ?_
  intro p e s m below meth c A ls C hW hl
  unfold fX5_expect at hf
  refine lv_aload_n C.1 C.2.1 dX5_expect_0 rfl (lv_at hl 0 rfl) ?_
  refine m_geti C hW ha0 flX5_90 dX5_expect_1 ?_
  refine lv_iload_n C.1 C.2.1 dX5_expect_4 rfl (lv_at hl 1 rfl) ?_
  refine lv_icmp_ne (tgt := 15) C.1 C.2.1 dX5_expect_5 rfl (fun c1 => ?_) (fun c1 => ?_)
  · have hf := (if_neg c1).symm.trans hf
    refine lv_aload_n C.1 C.2.1 dX5_expect_15 rfl (lv_at hl 0 rfl) ?_
    refine lv_iconst C.1 C.2.1 dX5_expect_16 ic_1 ?_
    refine lv_aload_n C.1 C.2.1 dX5_expect_17 rfl (lv_at hl 0 rfl) ?_
    refine m_geti C hW ha0 flX5_62 dX5_expect_18 ?_
    obtain ⟨q2, h3, hf⟩ := bd hf
    refine m_callV (As := [.int (1 : Int32), .int (gI S a0 7)]) (rest := []) C hW ha0 (cX5_fail_ok  ha0 h3) mlX5_93 (by decide) rfl hl.1 rfl (Nat.le_of_ble_eq_true rfl) (Nat.le_of_ble_eq_true rfl) (Nat.le_of_ble_eq_true rfl) dX5_expect_21 (fun H locs hW => ?_)
    cases hf
    exact m_vret C hW dX5_expect_24
  · have hf := (if_pos c1).symm.trans hf
    refine lv_aload_n C.1 C.2.1 dX5_expect_8 rfl (lv_at hl 0 rfl) ?_
    obtain ⟨q4, h5, hf⟩ := bd hf
    refine m_callV (As := []) (rest := []) C hW ha0 (cX5_next_ok  ha0 h5) mlX5_87 (by decide) rfl hl.1 rfl (Nat.le_of_ble_eq_true rfl) (Nat.le_of_ble_eq_true rfl) (Nat.le_of_ble_eq_true rfl) dX5_expect_9 (fun H locs hW => ?_)
    refine lv_goto (tgt := 24) C.1 C.2.1 dX5_expect_12 rfl ?_
    cases hf
    exact m_vret C hW dX5_expect_24

def fX5_once_13  (x0 : Nat) (S : MS) : Option MS := (fX5_next  x0 S).bind fun q1 => some q1
def fX5_once (a0 : Nat) (a1 : Int32) (S : MS) : Option MS := (if a1 = (0 : Int32) then fX5_once_13  a0 S else (fX5_fail  a0 (3 : Int32) (gI S a0 7) S).bind fun q4 => fX5_once_13  a0 q4)
set_option maxRecDepth 100000 in
theorem kX5_once_13 {p : Program} {l : Launch} {e : Env} {s : State} {m : MethodId} {av : Array Value} {below : List Frame} {meth : Method} {c : Code} {A : Nat → Prop} {G : Gv} {L : List Nat} {q : MS}  (C : mC p s m av meth c cX5_once RX5 2 none) : ∀ (x0 : Nat) (S : MS) (H : Heap) (locs : List Loc) (ls : Array Slot), (x0 < shX.1 ∧ shX.2.1 x0 = 5) → mW G shX L S A s H locs → lv_has ls 2 [(0, .ref (ad L x0))] → fX5_once_13  x0 S = some q → W p l e (rmd (4)) s m av below meth c H locs 0 0 (MQ below (mQ G shX L q none A) av s 0 0 A) (F0 m 13 ls []) := by
  intro x0 S H locs ls hx0 hW hl hf
  unfold fX5_once_13 at hf
  refine lv_aload_n C.1 C.2.1 dX5_once_13 rfl (lv_at hl 0 rfl) ?_
  obtain ⟨q1, h2, hf⟩ := bd hf
  refine m_callV (As := []) (rest := []) C hW hx0 (cX5_next_ok  hx0 h2) mlX5_87 (by decide) rfl hl.1 rfl (Nat.le_of_ble_eq_true rfl) (Nat.le_of_ble_eq_true rfl) (Nat.le_of_ble_eq_true rfl) dX5_once_14 (fun H locs hW => ?_)
  cases hf
  exact m_vret C hW dX5_once_17

set_option maxRecDepth 100000 in
theorem cX5_once_ok {l : Launch} {G : Gv} {L : List Nat} {S : MS} {a0 : Nat} {a1 : Int32} {q : MS} (ha0 : a0 < shX.1 ∧ shX.2.1 a0 = 5) (hf : fX5_once a0 a1 S = some q) : Mt l yX5_once cX5_once 2 none (4) G shX L S [.ref (ad L a0), .int a1] none q := by
  refine m_enter (lv := [(0, .ref (ad L a0)), (1, .int a1)]) (plainFor_of_name (by decide)) (Nat.le_of_ble_eq_true rfl) rfl ?_
  intro p e s m below meth c A ls C hW hl
  unfold fX5_once at hf
  refine lv_iload_n C.1 C.2.1 dX5_once_0 rfl (lv_at hl 1 rfl) ?_
  refine lv_if_eq (tgt := 13) C.1 C.2.1 dX5_once_1 rfl (fun c3 => ?_) (fun c3 => ?_)
  · have hf := (if_pos c3).symm.trans hf
    exact kX5_once_13  C a0 _ _ _ _ ha0 hW (lv_sub hl [0] rfl) hf
  · have hf := (if_neg c3).symm.trans hf
    refine lv_aload_n C.1 C.2.1 dX5_once_4 rfl (lv_at hl 0 rfl) ?_
    refine lv_iconst C.1 C.2.1 dX5_once_5 ic_3 ?_
    refine lv_aload_n C.1 C.2.1 dX5_once_6 rfl (lv_at hl 0 rfl) ?_
    refine m_geti C hW ha0 flX5_62 dX5_once_7 ?_
    obtain ⟨q4, h5, hf⟩ := bd hf
    refine m_callV (As := [.int (3 : Int32), .int (gI S a0 7)]) (rest := []) C hW ha0 (cX5_fail_ok  ha0 h5) mlX5_93 (by decide) rfl hl.1 rfl (Nat.le_of_ble_eq_true rfl) (Nat.le_of_ble_eq_true rfl) (Nat.le_of_ble_eq_true rfl) dX5_once_10 (fun H locs hW => ?_)
    exact kX5_once_13  C a0 _ _ _ _ ha0 hW (lv_sub hl [0] rfl) hf

def fX5_takeWord_13  (x0 : Nat) (S : MS) : Option MS := (fX5_next  x0 S).bind fun q1 => some q1
def fX5_takeWord (a0 : Nat) (a1 : Int32) (S : MS) : Option MS := (if a1 = (0 : Int32) then fX5_takeWord_13  a0 S else (fX5_fail  a0 (2 : Int32) (gI S a0 7) S).bind fun q4 => fX5_takeWord_13  a0 q4)
set_option maxRecDepth 100000 in
theorem kX5_takeWord_13 {p : Program} {l : Launch} {e : Env} {s : State} {m : MethodId} {av : Array Value} {below : List Frame} {meth : Method} {c : Code} {A : Nat → Prop} {G : Gv} {L : List Nat} {q : MS}  (C : mC p s m av meth c cX5_takeWord RX5 2 none) : ∀ (x0 : Nat) (S : MS) (H : Heap) (locs : List Loc) (ls : Array Slot), (x0 < shX.1 ∧ shX.2.1 x0 = 5) → mW G shX L S A s H locs → lv_has ls 2 [(0, .ref (ad L x0))] → fX5_takeWord_13  x0 S = some q → W p l e (rmd (4)) s m av below meth c H locs 0 0 (MQ below (mQ G shX L q none A) av s 0 0 A) (F0 m 13 ls []) := by
  intro x0 S H locs ls hx0 hW hl hf
  unfold fX5_takeWord_13 at hf
  refine lv_aload_n C.1 C.2.1 dX5_takeWord_13 rfl (lv_at hl 0 rfl) ?_
  obtain ⟨q1, h2, hf⟩ := bd hf
  refine m_callV (As := []) (rest := []) C hW hx0 (cX5_next_ok  hx0 h2) mlX5_87 (by decide) rfl hl.1 rfl (Nat.le_of_ble_eq_true rfl) (Nat.le_of_ble_eq_true rfl) (Nat.le_of_ble_eq_true rfl) dX5_takeWord_14 (fun H locs hW => ?_)
  cases hf
  exact m_vret C hW dX5_takeWord_17

set_option maxRecDepth 100000 in
theorem cX5_takeWord_ok {l : Launch} {G : Gv} {L : List Nat} {S : MS} {a0 : Nat} {a1 : Int32} {q : MS} (ha0 : a0 < shX.1 ∧ shX.2.1 a0 = 5) (hf : fX5_takeWord a0 a1 S = some q) : Mt l yX5_takeWord cX5_takeWord 2 none (4) G shX L S [.ref (ad L a0), .int a1] none q := by
  refine m_enter (lv := [(0, .ref (ad L a0)), (1, .int a1)]) (plainFor_of_name (by decide)) (Nat.le_of_ble_eq_true rfl) rfl ?_
  intro p e s m below meth c A ls C hW hl
  unfold fX5_takeWord at hf
  refine lv_iload_n C.1 C.2.1 dX5_takeWord_0 rfl (lv_at hl 1 rfl) ?_
  refine lv_if_eq (tgt := 13) C.1 C.2.1 dX5_takeWord_1 rfl (fun c3 => ?_) (fun c3 => ?_)
  · have hf := (if_pos c3).symm.trans hf
    exact kX5_takeWord_13  C a0 _ _ _ _ ha0 hW (lv_sub hl [0] rfl) hf
  · have hf := (if_neg c3).symm.trans hf
    refine lv_aload_n C.1 C.2.1 dX5_takeWord_4 rfl (lv_at hl 0 rfl) ?_
    refine lv_iconst C.1 C.2.1 dX5_takeWord_5 ic_2 ?_
    refine lv_aload_n C.1 C.2.1 dX5_takeWord_6 rfl (lv_at hl 0 rfl) ?_
    refine m_geti C hW ha0 flX5_62 dX5_takeWord_7 ?_
    obtain ⟨q4, h5, hf⟩ := bd hf
    refine m_callV (As := [.int (2 : Int32), .int (gI S a0 7)]) (rest := []) C hW ha0 (cX5_fail_ok  ha0 h5) mlX5_93 (by decide) rfl hl.1 rfl (Nat.le_of_ble_eq_true rfl) (Nat.le_of_ble_eq_true rfl) (Nat.le_of_ble_eq_true rfl) dX5_takeWord_10 (fun H locs hW => ?_)
    exact kX5_takeWord_13  C a0 _ _ _ _ ha0 hW (lv_sub hl [0] rfl) hf

def fX5_takeName_42  (x0 : Nat) (x1 : Nat) (S : MS) : Option MS := (fX7_put  x1 (0 : Int32) (gI S x0 6) S).bind fun q1 => (fX5_next  x0 q1).bind fun q3 => some q3
def fX5_takeName (a0 : Nat) (a1 : Nat) (S : MS) : Option MS := (if gI S a0 5 = (2 : Int32) then (fX7_find  a1 (0 : Int32) (gI S a0 6) S).bind fun q6 => (if q6 = (-1 : Int32) then fX5_takeName_42  a0 a1 S else (fX5_fail  a0 (3 : Int32) (gI S a0 7) S).bind fun q9 => fX5_takeName_42  a0 a1 q9) else (fX5_fail  a0 (1 : Int32) (gI S a0 7) S).bind fun q11 => fX5_takeName_42  a0 a1 q11)
set_option maxRecDepth 100000 in
theorem kX5_takeName_42 {p : Program} {l : Launch} {e : Env} {s : State} {m : MethodId} {av : Array Value} {below : List Frame} {meth : Method} {c : Code} {A : Nat → Prop} {G : Gv} {L : List Nat} {q : MS}  (C : mC p s m av meth c cX5_takeName RX5 2 none) : ∀ (x0 : Nat) (x1 : Nat) (S : MS) (H : Heap) (locs : List Loc) (ls : Array Slot), (x0 < shX.1 ∧ shX.2.1 x0 = 5) → (x1 < shX.1 ∧ shX.2.1 x1 = 7) → mW G shX L S A s H locs → lv_has ls 2 [(0, .ref (ad L x0)), (1, .ref (ad L x1))] → fX5_takeName_42  x0 x1 S = some q → W p l e (rmd (4)) s m av below meth c H locs 0 0 (MQ below (mQ G shX L q none A) av s 0 0 A) (F0 m 42 ls []) := by
  intro x0 x1 S H locs ls hx0 hx1 hW hl hf
  unfold fX5_takeName_42 at hf
  refine lv_aload_n C.1 C.2.1 dX5_takeName_42 rfl (lv_at hl 1 rfl) ?_
  refine lv_iconst C.1 C.2.1 dX5_takeName_43 ic_0 ?_
  refine lv_aload_n C.1 C.2.1 dX5_takeName_44 rfl (lv_at hl 0 rfl) ?_
  refine m_geti C hW hx0 flX5_217 dX5_takeName_45 ?_
  obtain ⟨q1, h2, hf⟩ := bd hf
  refine m_callV (As := [.int (0 : Int32), .int (gI S x0 6)]) (rest := []) C hW hx1 (cX7_put_ok  hx1 h2) mlX5_182 (by decide) rfl hl.1 rfl (Nat.le_of_ble_eq_true rfl) (Nat.le_of_ble_eq_true rfl) (Nat.le_of_ble_eq_true rfl) dX5_takeName_48 (fun H locs hW => ?_)
  refine lv_aload_n C.1 C.2.1 dX5_takeName_51 rfl (lv_at hl 0 rfl) ?_
  obtain ⟨q3, h4, hf⟩ := bd hf
  refine m_callV (As := []) (rest := []) C hW hx0 (cX5_next_ok  hx0 h4) mlX5_87 (by decide) rfl hl.1 rfl (Nat.le_of_ble_eq_true rfl) (Nat.le_of_ble_eq_true rfl) (Nat.le_of_ble_eq_true rfl) dX5_takeName_52 (fun H locs hW => ?_)
  cases hf
  exact m_vret C hW dX5_takeName_55

set_option maxRecDepth 100000 in
theorem cX5_takeName_ok {l : Launch} {G : Gv} {L : List Nat} {S : MS} {a0 : Nat} {a1 : Nat} {q : MS} (ha0 : a0 < shX.1 ∧ shX.2.1 a0 = 5) (ha1 : a1 < shX.1 ∧ shX.2.1 a1 = 7) (hf : fX5_takeName a0 a1 S = some q) : Mt l yX5_takeName cX5_takeName 2 none (4) G shX L S [.ref (ad L a0), .ref (ad L a1)] none q := by
  refine m_enter (lv := [(0, .ref (ad L a0)), (1, .ref (ad L a1))]) (plainFor_of_name (by decide)) (Nat.le_of_ble_eq_true rfl) rfl ?_
  intro p e s m below meth c A ls C hW hl
  unfold fX5_takeName at hf
  refine lv_aload_n C.1 C.2.1 dX5_takeName_0 rfl (lv_at hl 0 rfl) ?_
  refine m_geti C hW ha0 flX5_90 dX5_takeName_1 ?_
  refine lv_iconst C.1 C.2.1 dX5_takeName_4 ic_2 ?_
  refine lv_icmp_eq (tgt := 20) C.1 C.2.1 dX5_takeName_5 rfl (fun c5 => ?_) (fun c5 => ?_)
  · have hf := (if_pos c5).symm.trans hf
    refine lv_aload_n C.1 C.2.1 dX5_takeName_20 rfl (lv_at hl 1 rfl) ?_
    refine lv_iconst C.1 C.2.1 dX5_takeName_21 ic_0 ?_
    refine lv_aload_n C.1 C.2.1 dX5_takeName_22 rfl (lv_at hl 0 rfl) ?_
    refine m_geti C hW ha0 flX5_217 dX5_takeName_23 ?_
    obtain ⟨q6, h7, hf⟩ := bd hf
    refine m_callV (As := [.int (0 : Int32), .int (gI S a0 6)]) (rest := []) C hW ha1 (cX7_find_ok  ha1 h7) mlX5_179 (by decide) rfl hl.1 rfl (Nat.le_of_ble_eq_true rfl) (Nat.le_of_ble_eq_true rfl) (Nat.le_of_ble_eq_true rfl) dX5_takeName_26 (fun H locs hW => ?_)
    refine lv_iconst C.1 C.2.1 dX5_takeName_29 ic_m1 ?_
    refine lv_icmp_eq (tgt := 42) C.1 C.2.1 dX5_takeName_30 rfl (fun c8 => ?_) (fun c8 => ?_)
    · have hf := (if_pos c8).symm.trans hf
      exact kX5_takeName_42  C a0 a1 _ _ _ _ ha0 ha1 hW (lv_sub hl [0, 1] rfl) hf
    · have hf := (if_neg c8).symm.trans hf
      refine lv_aload_n C.1 C.2.1 dX5_takeName_33 rfl (lv_at hl 0 rfl) ?_
      refine lv_iconst C.1 C.2.1 dX5_takeName_34 ic_3 ?_
      refine lv_aload_n C.1 C.2.1 dX5_takeName_35 rfl (lv_at hl 0 rfl) ?_
      refine m_geti C hW ha0 flX5_62 dX5_takeName_36 ?_
      obtain ⟨q9, h10, hf⟩ := bd hf
      refine m_callV (As := [.int (3 : Int32), .int (gI S a0 7)]) (rest := []) C hW ha0 (cX5_fail_ok  ha0 h10) mlX5_93 (by decide) rfl hl.1 rfl (Nat.le_of_ble_eq_true rfl) (Nat.le_of_ble_eq_true rfl) (Nat.le_of_ble_eq_true rfl) dX5_takeName_39 (fun H locs hW => ?_)
      exact kX5_takeName_42  C a0 a1 _ _ _ _ ha0 ha1 hW (lv_sub hl [0, 1] rfl) hf
  · have hf := (if_neg c5).symm.trans hf
    refine lv_aload_n C.1 C.2.1 dX5_takeName_8 rfl (lv_at hl 0 rfl) ?_
    refine lv_iconst C.1 C.2.1 dX5_takeName_9 ic_1 ?_
    refine lv_aload_n C.1 C.2.1 dX5_takeName_10 rfl (lv_at hl 0 rfl) ?_
    refine m_geti C hW ha0 flX5_62 dX5_takeName_11 ?_
    obtain ⟨q11, h12, hf⟩ := bd hf
    refine m_callV (As := [.int (1 : Int32), .int (gI S a0 7)]) (rest := []) C hW ha0 (cX5_fail_ok  ha0 h12) mlX5_93 (by decide) rfl hl.1 rfl (Nat.le_of_ble_eq_true rfl) (Nat.le_of_ble_eq_true rfl) (Nat.le_of_ble_eq_true rfl) dX5_takeName_14 (fun H locs hW => ?_)
    refine lv_goto (tgt := 42) C.1 C.2.1 dX5_takeName_17 rfl ?_
    exact kX5_takeName_42  C a0 a1 _ _ _ _ ha0 ha1 hW (lv_sub hl [0, 1] rfl) hf

def fX5_number_34  (x0 : Nat) (x1 : Int32) (S : MS) : Option (Int32 × MS) := (fX5_fail  x0 (2 : Int32) (gI S x0 7) S).bind fun q1 => some (x1, q1)
def fX5_number (a0 : Nat) (a1 : Int32) (a2 : Int32) (S : MS) : Option (Int32 × MS) := (if gI S a0 5 = (3 : Int32) then (if (gI S a0 6) < a1 then fX5_number_34  a0 a1 S else (if (gI S a0 6) ≤ a2 then (fX5_next  a0 S).bind fun q6 => some (gI S a0 6, q6) else fX5_number_34  a0 a1 S)) else (fX5_fail  a0 (1 : Int32) (gI S a0 7) S).bind fun q8 => some (a1, q8))
set_option maxRecDepth 100000 in
theorem kX5_number_34 {p : Program} {l : Launch} {e : Env} {s : State} {m : MethodId} {av : Array Value} {below : List Frame} {meth : Method} {c : Code} {A : Nat → Prop} {G : Gv} {L : List Nat} {q : (Int32 × MS)}  (C : mC p s m av meth c cX5_number RX5 4 (some .int)) : ∀ (x0 : Nat) (x1 : Int32) (S : MS) (H : Heap) (locs : List Loc) (ls : Array Slot), (x0 < shX.1 ∧ shX.2.1 x0 = 5) → mW G shX L S A s H locs → lv_has ls 4 [(0, .ref (ad L x0)), (1, .int x1)] → fX5_number_34  x0 x1 S = some q → W p l e (rmd (4)) s m av below meth c H locs 0 0 (MQ below (mQ G shX L q.2 (some (.int q.1)) A) av s 0 0 A) (F0 m 34 ls []) := by
  intro x0 x1 S H locs ls hx0 hW hl hf
  unfold fX5_number_34 at hf
  refine lv_aload_n C.1 C.2.1 dX5_number_34 rfl (lv_at hl 0 rfl) ?_
  refine lv_iconst C.1 C.2.1 dX5_number_35 ic_2 ?_
  refine lv_aload_n C.1 C.2.1 dX5_number_36 rfl (lv_at hl 0 rfl) ?_
  refine m_geti C hW hx0 flX5_62 dX5_number_37 ?_
  obtain ⟨q1, h2, hf⟩ := bd hf
  refine m_callV (As := [.int (2 : Int32), .int (gI S x0 7)]) (rest := []) C hW hx0 (cX5_fail_ok  hx0 h2) mlX5_93 (by decide) rfl hl.1 rfl (Nat.le_of_ble_eq_true rfl) (Nat.le_of_ble_eq_true rfl) (Nat.le_of_ble_eq_true rfl) dX5_number_40 (fun H locs hW => ?_)
  refine lv_iload_n C.1 C.2.1 dX5_number_43 rfl (lv_at hl 1 rfl) ?_
  cases hf
  exact m_iret C hW dX5_number_44

set_option maxRecDepth 100000 in
theorem cX5_number_ok {l : Launch} {G : Gv} {L : List Nat} {S : MS} {a0 : Nat} {a1 : Int32} {a2 : Int32} {q : (Int32 × MS)} (ha0 : a0 < shX.1 ∧ shX.2.1 a0 = 5) (hf : fX5_number a0 a1 a2 S = some q) : Mt l yX5_number cX5_number 4 (some .int) (4) G shX L S [.ref (ad L a0), .int a1, .int a2] (some (.int q.1)) q.2 := by
  refine m_enter (lv := [(0, .ref (ad L a0)), (1, .int a1), (2, .int a2)]) (plainFor_of_name (by decide)) (Nat.le_of_ble_eq_true rfl) rfl ?_
  intro p e s m below meth c A ls C hW hl
  unfold fX5_number at hf
  refine lv_aload_n C.1 C.2.1 dX5_number_0 rfl (lv_at hl 0 rfl) ?_
  refine m_geti C hW ha0 flX5_217 dX5_number_1 ?_
  refine lv_istore_n (lv' := [(3, .int (gI S a0 6)), (0, .ref (ad L a0)), (1, .int a1), (2, .int a2)]) C.1 C.2.1 dX5_number_4 rfl hl (by decide) rfl (fun ls hl => ?_)
  refine lv_aload_n C.1 C.2.1 dX5_number_5 rfl (lv_at hl 1 rfl) ?_
  refine m_geti C hW ha0 flX5_90 dX5_number_6 ?_
  refine lv_iconst C.1 C.2.1 dX5_number_9 ic_3 ?_
  refine lv_icmp_eq (tgt := 24) C.1 C.2.1 dX5_number_10 rfl (fun c3 => ?_) (fun c3 => ?_)
  · have hf := (if_pos c3).symm.trans hf
    refine lv_iload_n C.1 C.2.1 dX5_number_24 rfl (lv_at hl 0 rfl) ?_
    refine lv_iload_n C.1 C.2.1 dX5_number_25 rfl (lv_at hl 2 rfl) ?_
    refine lv_icmp_lt (tgt := 34) C.1 C.2.1 dX5_number_26 rfl (fun c4 => ?_) (fun c4 => ?_)
    · have hf := (if_pos c4).symm.trans hf
      exact kX5_number_34  C a0 a1 _ _ _ _ ha0 hW (lv_sub hl [1, 2] rfl) hf
    · have hf := (if_neg c4).symm.trans hf
      refine lv_iload_n C.1 C.2.1 dX5_number_29 rfl (lv_at hl 0 rfl) ?_
      refine lv_iload_n C.1 C.2.1 dX5_number_30 rfl (lv_at hl 3 rfl) ?_
      refine lv_icmp_le (tgt := 45) C.1 C.2.1 dX5_number_31 rfl (fun c5 => ?_) (fun c5 => ?_)
      · have hf := (if_pos c5).symm.trans hf
        refine lv_aload_n C.1 C.2.1 dX5_number_45 rfl (lv_at hl 1 rfl) ?_
        obtain ⟨q6, h7, hf⟩ := bd hf
        refine m_callV (As := []) (rest := []) C hW ha0 (cX5_next_ok  ha0 h7) mlX5_87 (by decide) rfl hl.1 rfl (Nat.le_of_ble_eq_true rfl) (Nat.le_of_ble_eq_true rfl) (Nat.le_of_ble_eq_true rfl) dX5_number_46 (fun H locs hW => ?_)
        refine lv_iload_n C.1 C.2.1 dX5_number_49 rfl (lv_at hl 0 rfl) ?_
        cases hf
        exact m_iret C hW dX5_number_50
      · have hf := (if_neg c5).symm.trans hf
        exact kX5_number_34  C a0 a1 _ _ _ _ ha0 hW (lv_sub hl [1, 2] rfl) hf
  · have hf := (if_neg c3).symm.trans hf
    refine lv_aload_n C.1 C.2.1 dX5_number_13 rfl (lv_at hl 1 rfl) ?_
    refine lv_iconst C.1 C.2.1 dX5_number_14 ic_1 ?_
    refine lv_aload_n C.1 C.2.1 dX5_number_15 rfl (lv_at hl 1 rfl) ?_
    refine m_geti C hW ha0 flX5_62 dX5_number_16 ?_
    obtain ⟨q8, h9, hf⟩ := bd hf
    refine m_callV (As := [.int (1 : Int32), .int (gI S a0 7)]) (rest := []) C hW ha0 (cX5_fail_ok  ha0 h9) mlX5_93 (by decide) rfl hl.1 rfl (Nat.le_of_ble_eq_true rfl) (Nat.le_of_ble_eq_true rfl) (Nat.le_of_ble_eq_true rfl) dX5_number_19 (fun H locs hW => ?_)
    refine lv_iload_n C.1 C.2.1 dX5_number_22 rfl (lv_at hl 2 rfl) ?_
    cases hf
    exact m_iret C hW dX5_number_23

def fX5_takePart_89  (x0 : Nat) (y0 : Nat) (y1 : Int32) (S : MS) : Option (Int32 × MS) := (fX1_add  y0 y1 S).bind fun q1 => (fX5_countKnot  x0 q1).bind fun q3 => (fX5_next  x0 q3).bind fun q5 => some ((0 : Int32), q5)
def fX5_takePart_65  (x0 : Nat) (S : MS) : Option (Int32 × MS) := (if gI S x0 5 = (3 : Int32) then fX5_takePart_89  x0 (gR S x0 10) (gI S x0 6) S else fX5_takePart_89  x0 (gR S x0 10) (-(gI S x0 5)) S)
def fX5_takePart_169  (x0 : Nat) (S : MS) : Option (Int32 × MS) := (fX5_fail  x0 (1 : Int32) (gI S x0 7) S).bind fun q9 => some ((1 : Int32), q9)
def fX5_takePart_47  (x0 : Nat) (S : MS) : Option (Int32 × MS) := (if gI S x0 5 = (3 : Int32) then fX5_takePart_65  x0 S else (fX5_isName  (gI S x0 5) S).bind fun q12 => (if q12 = (0 : Int32) then (if gI S x0 5 = (5 : Int32) then (fX5_hold  x0 (5 : Int32) S).bind fun q28 => (fX5_next  x0 (pI q28 x0 12 ((gI q28 x0 12) + (1 : Int32)))).bind fun q30 => some ((1 : Int32), q30) else (if gI S x0 5 = (36 : Int32) then (fX5_lastWaiting  x0 S).bind fun q17 => (fX5_rankOf  q17 S).bind fun q19 => (if (3 : Int32) < q19 then fX5_takePart_169  x0 S else (fX5_hold  x0 (36 : Int32) S).bind fun q22 => (fX5_countKnot  x0 q22).bind fun q24 => (fX5_next  x0 q24).bind fun q26 => some ((1 : Int32), q26)) else fX5_takePart_169  x0 S)) else fX5_takePart_65  x0 S))
def fX5_takePart_35  (x0 : Nat) (S : MS) : Option (Int32 × MS) := (fX5_fail  x0 (2 : Int32) (gI S x0 7) S).bind fun q32 => some ((1 : Int32), q32)
def fX5_takePart_18  (x0 : Nat) (S : MS) : Option (Int32 × MS) := (if gI S x0 5 = (5 : Int32) then (if (gI S x0 12) < (8 : Int32) then fX5_takePart_47  x0 S else fX5_takePart_35  x0 S) else fX5_takePart_47  x0 S)
def fX5_takePart (a0 : Nat) (S : MS) : Option (Int32 × MS) := (if gI S a0 5 = (3 : Int32) then (if (9999 : Int32) < (gI S a0 6) then fX5_takePart_35  a0 S else fX5_takePart_18  a0 S) else fX5_takePart_18  a0 S)
set_option maxRecDepth 100000 in
theorem kX5_takePart_89 {p : Program} {l : Launch} {e : Env} {s : State} {m : MethodId} {av : Array Value} {below : List Frame} {meth : Method} {c : Code} {A : Nat → Prop} {G : Gv} {L : List Nat} {q : (Int32 × MS)}  (C : mC p s m av meth c cX5_takePart RX5 1 (some .boolean)) : ∀ (x0 : Nat) (y0 : Nat) (y1 : Int32) (S : MS) (H : Heap) (locs : List Loc) (ls : Array Slot), (x0 < shX.1 ∧ shX.2.1 x0 = 5) → (y0 < shX.1 ∧ shX.2.1 y0 = 1) → mW G shX L S A s H locs → lv_has ls 1 [(0, .ref (ad L x0))] → fX5_takePart_89  x0 y0 y1 S = some q → W p l e (rmd (4)) s m av below meth c H locs 0 0 (MQ below (mQ G shX L q.2 (some (.int q.1)) A) av s 0 0 A) (F0 m 89 ls [.int y1, .ref (ad L y0)]) := by
  intro x0 y0 y1 S H locs ls hx0 hy0 hW hl hf
  unfold fX5_takePart_89 at hf
  obtain ⟨q1, h2, hf⟩ := bd hf
  refine m_callV (As := [.int y1]) (rest := []) C hW hy0 (cX1_add_ok  hy0 h2) mlX5_246 (by decide) rfl hl.1 rfl (Nat.le_of_ble_eq_true rfl) (Nat.le_of_ble_eq_true rfl) (Nat.le_of_ble_eq_true rfl) dX5_takePart_89 (fun H locs hW => ?_)
  refine lv_aload_n C.1 C.2.1 dX5_takePart_92 rfl (lv_at hl 0 rfl) ?_
  obtain ⟨q3, h4, hf⟩ := bd hf
  refine m_callV (As := []) (rest := []) C hW hx0 (cX5_countKnot_ok  hx0 h4) mlX5_249 (by decide) rfl hl.1 rfl (Nat.le_of_ble_eq_true rfl) (Nat.le_of_ble_eq_true rfl) (Nat.le_of_ble_eq_true rfl) dX5_takePart_93 (fun H locs hW => ?_)
  refine lv_aload_n C.1 C.2.1 dX5_takePart_96 rfl (lv_at hl 0 rfl) ?_
  obtain ⟨q5, h6, hf⟩ := bd hf
  refine m_callV (As := []) (rest := []) C hW hx0 (cX5_next_ok  hx0 h6) mlX5_87 (by decide) rfl hl.1 rfl (Nat.le_of_ble_eq_true rfl) (Nat.le_of_ble_eq_true rfl) (Nat.le_of_ble_eq_true rfl) dX5_takePart_97 (fun H locs hW => ?_)
  refine lv_iconst C.1 C.2.1 dX5_takePart_100 ic_0 ?_
  cases hf
  exact m_zret C hW rfl dX5_takePart_101

set_option maxRecDepth 100000 in
theorem kX5_takePart_65 {p : Program} {l : Launch} {e : Env} {s : State} {m : MethodId} {av : Array Value} {below : List Frame} {meth : Method} {c : Code} {A : Nat → Prop} {G : Gv} {L : List Nat} {q : (Int32 × MS)}  (C : mC p s m av meth c cX5_takePart RX5 1 (some .boolean)) : ∀ (x0 : Nat) (S : MS) (H : Heap) (locs : List Loc) (ls : Array Slot), (x0 < shX.1 ∧ shX.2.1 x0 = 5) → mW G shX L S A s H locs → lv_has ls 1 [(0, .ref (ad L x0))] → fX5_takePart_65  x0 S = some q → W p l e (rmd (4)) s m av below meth c H locs 0 0 (MQ below (mQ G shX L q.2 (some (.int q.1)) A) av s 0 0 A) (F0 m 65 ls []) := by
  intro x0 S H locs ls hx0 hW hl hf
  unfold fX5_takePart_65 at hf
  refine lv_aload_n C.1 C.2.1 dX5_takePart_65 rfl (lv_at hl 0 rfl) ?_
  refine m_getr C hW hx0 flX5_34 (by decide) dX5_takePart_66 (fun hk7 => ?_)
  refine lv_aload_n C.1 C.2.1 dX5_takePart_69 rfl (lv_at hl 0 rfl) ?_
  refine m_geti C hW hx0 flX5_90 dX5_takePart_70 ?_
  refine lv_iconst C.1 C.2.1 dX5_takePart_73 ic_3 ?_
  refine lv_icmp_ne (tgt := 84) C.1 C.2.1 dX5_takePart_74 rfl (fun c8 => ?_) (fun c8 => ?_)
  · have hf := (if_neg c8).symm.trans hf
    refine lv_aload_n C.1 C.2.1 dX5_takePart_84 rfl (lv_at hl 0 rfl) ?_
    refine m_geti C hW hx0 flX5_90 dX5_takePart_85 ?_
    refine lv_ineg C.1 C.2.1 dX5_takePart_88 ?_
    exact kX5_takePart_89  C x0 (gR S x0 10) (-(gI S x0 5)) _ _ _ _ hx0 hk7 hW (lv_sub hl [0] rfl) hf
  · have hf := (if_pos c8).symm.trans hf
    refine lv_aload_n C.1 C.2.1 dX5_takePart_77 rfl (lv_at hl 0 rfl) ?_
    refine m_geti C hW hx0 flX5_217 dX5_takePart_78 ?_
    refine lv_goto (tgt := 89) C.1 C.2.1 dX5_takePart_81 rfl ?_
    exact kX5_takePart_89  C x0 (gR S x0 10) (gI S x0 6) _ _ _ _ hx0 hk7 hW (lv_sub hl [0] rfl) hf

set_option maxRecDepth 100000 in
theorem kX5_takePart_169 {p : Program} {l : Launch} {e : Env} {s : State} {m : MethodId} {av : Array Value} {below : List Frame} {meth : Method} {c : Code} {A : Nat → Prop} {G : Gv} {L : List Nat} {q : (Int32 × MS)}  (C : mC p s m av meth c cX5_takePart RX5 1 (some .boolean)) : ∀ (x0 : Nat) (S : MS) (H : Heap) (locs : List Loc) (ls : Array Slot), (x0 < shX.1 ∧ shX.2.1 x0 = 5) → mW G shX L S A s H locs → lv_has ls 1 [(0, .ref (ad L x0))] → fX5_takePart_169  x0 S = some q → W p l e (rmd (4)) s m av below meth c H locs 0 0 (MQ below (mQ G shX L q.2 (some (.int q.1)) A) av s 0 0 A) (F0 m 169 ls []) := by
  intro x0 S H locs ls hx0 hW hl hf
  unfold fX5_takePart_169 at hf
  refine lv_aload_n C.1 C.2.1 dX5_takePart_169 rfl (lv_at hl 0 rfl) ?_
  refine lv_iconst C.1 C.2.1 dX5_takePart_170 ic_1 ?_
  refine lv_aload_n C.1 C.2.1 dX5_takePart_171 rfl (lv_at hl 0 rfl) ?_
  refine m_geti C hW hx0 flX5_62 dX5_takePart_172 ?_
  obtain ⟨q9, h10, hf⟩ := bd hf
  refine m_callV (As := [.int (1 : Int32), .int (gI S x0 7)]) (rest := []) C hW hx0 (cX5_fail_ok  hx0 h10) mlX5_93 (by decide) rfl hl.1 rfl (Nat.le_of_ble_eq_true rfl) (Nat.le_of_ble_eq_true rfl) (Nat.le_of_ble_eq_true rfl) dX5_takePart_175 (fun H locs hW => ?_)
  refine lv_iconst C.1 C.2.1 dX5_takePart_178 ic_1 ?_
  cases hf
  exact m_zret C hW rfl dX5_takePart_179

set_option maxRecDepth 100000 in
theorem kX5_takePart_47 {p : Program} {l : Launch} {e : Env} {s : State} {m : MethodId} {av : Array Value} {below : List Frame} {meth : Method} {c : Code} {A : Nat → Prop} {G : Gv} {L : List Nat} {q : (Int32 × MS)}  (C : mC p s m av meth c cX5_takePart RX5 1 (some .boolean)) : ∀ (x0 : Nat) (S : MS) (H : Heap) (locs : List Loc) (ls : Array Slot), (x0 < shX.1 ∧ shX.2.1 x0 = 5) → mW G shX L S A s H locs → lv_has ls 1 [(0, .ref (ad L x0))] → fX5_takePart_47  x0 S = some q → W p l e (rmd (4)) s m av below meth c H locs 0 0 (MQ below (mQ G shX L q.2 (some (.int q.1)) A) av s 0 0 A) (F0 m 47 ls []) := by
  intro x0 S H locs ls hx0 hW hl hf
  unfold fX5_takePart_47 at hf
  refine lv_aload_n C.1 C.2.1 dX5_takePart_47 rfl (lv_at hl 0 rfl) ?_
  refine m_geti C hW hx0 flX5_90 dX5_takePart_48 ?_
  refine lv_iconst C.1 C.2.1 dX5_takePart_51 ic_3 ?_
  refine lv_icmp_eq (tgt := 65) C.1 C.2.1 dX5_takePart_52 rfl (fun c11 => ?_) (fun c11 => ?_)
  · have hf := (if_pos c11).symm.trans hf
    exact kX5_takePart_65  C x0 _ _ _ _ hx0 hW (lv_sub hl [0] rfl) hf
  · have hf := (if_neg c11).symm.trans hf
    refine lv_aload_n C.1 C.2.1 dX5_takePart_55 rfl (lv_at hl 0 rfl) ?_
    refine m_geti C hW hx0 flX5_90 dX5_takePart_56 ?_
    obtain ⟨q12, h13, hf⟩ := bd hf
    refine m_callS (As := [.int (gI S x0 5)]) (rest := []) C hW (cX5_isName_ok   h13) mlX5_242 rfl hl.1 rfl (Nat.le_of_ble_eq_true rfl) (Nat.le_of_ble_eq_true rfl) (Nat.le_of_ble_eq_true rfl) dX5_takePart_59 (fun H locs hW => ?_)
    refine lv_if_eq (tgt := 102) C.1 C.2.1 dX5_takePart_62 rfl (fun c14 => ?_) (fun c14 => ?_)
    · have hf := (if_pos c14).symm.trans hf
      refine lv_aload_n C.1 C.2.1 dX5_takePart_102 rfl (lv_at hl 0 rfl) ?_
      refine m_geti C hW hx0 flX5_90 dX5_takePart_103 ?_
      refine lv_iconst C.1 C.2.1 dX5_takePart_106 ic_5 ?_
      refine lv_icmp_ne (tgt := 132) C.1 C.2.1 dX5_takePart_107 rfl (fun c15 => ?_) (fun c15 => ?_)
      · have hf := (if_neg c15).symm.trans hf
        refine lv_aload_n C.1 C.2.1 dX5_takePart_132 rfl (lv_at hl 0 rfl) ?_
        refine m_geti C hW hx0 flX5_90 dX5_takePart_133 ?_
        refine lv_bipush C.1 C.2.1 dX5_takePart_136 bp_36 ?_
        refine lv_icmp_ne (tgt := 169) C.1 C.2.1 dX5_takePart_138 rfl (fun c16 => ?_) (fun c16 => ?_)
        · have hf := (if_neg c16).symm.trans hf
          exact kX5_takePart_169  C x0 _ _ _ _ hx0 hW (lv_sub hl [0] rfl) hf
        · have hf := (if_pos c16).symm.trans hf
          refine lv_aload_n C.1 C.2.1 dX5_takePart_141 rfl (lv_at hl 0 rfl) ?_
          obtain ⟨q17, h18, hf⟩ := bd hf
          refine m_callV (As := []) (rest := []) C hW hx0 (cX5_lastWaiting_ok  hx0 h18) mlX5_255 (by decide) rfl hl.1 rfl (Nat.le_of_ble_eq_true rfl) (Nat.le_of_ble_eq_true rfl) (Nat.le_of_ble_eq_true rfl) dX5_takePart_142 (fun H locs hW => ?_)
          obtain ⟨q19, h20, hf⟩ := bd hf
          refine m_callS (As := [.int q17]) (rest := []) C hW (cX5_rankOf_ok   h20) mlX5_232 rfl hl.1 rfl (Nat.le_of_ble_eq_true rfl) (Nat.le_of_ble_eq_true rfl) (Nat.le_of_ble_eq_true rfl) dX5_takePart_145 (fun H locs hW => ?_)
          refine lv_iconst C.1 C.2.1 dX5_takePart_148 ic_3 ?_
          refine lv_icmp_gt (tgt := 169) C.1 C.2.1 dX5_takePart_149 rfl (fun c21 => ?_) (fun c21 => ?_)
          · have hf := (if_pos c21).symm.trans hf
            exact kX5_takePart_169  C x0 _ _ _ _ hx0 hW (lv_sub hl [0] rfl) hf
          · have hf := (if_neg c21).symm.trans hf
            refine lv_aload_n C.1 C.2.1 dX5_takePart_152 rfl (lv_at hl 0 rfl) ?_
            refine lv_bipush C.1 C.2.1 dX5_takePart_153 bp_36 ?_
            obtain ⟨q22, h23, hf⟩ := bd hf
            refine m_callV (As := [.int (36 : Int32)]) (rest := []) C hW hx0 (cX5_hold_ok  hx0 h23) mlX5_252 (by decide) rfl hl.1 rfl (Nat.le_of_ble_eq_true rfl) (Nat.le_of_ble_eq_true rfl) (Nat.le_of_ble_eq_true rfl) dX5_takePart_155 (fun H locs hW => ?_)
            refine lv_aload_n C.1 C.2.1 dX5_takePart_158 rfl (lv_at hl 0 rfl) ?_
            obtain ⟨q24, h25, hf⟩ := bd hf
            refine m_callV (As := []) (rest := []) C hW hx0 (cX5_countKnot_ok  hx0 h25) mlX5_249 (by decide) rfl hl.1 rfl (Nat.le_of_ble_eq_true rfl) (Nat.le_of_ble_eq_true rfl) (Nat.le_of_ble_eq_true rfl) dX5_takePart_159 (fun H locs hW => ?_)
            refine lv_aload_n C.1 C.2.1 dX5_takePart_162 rfl (lv_at hl 0 rfl) ?_
            obtain ⟨q26, h27, hf⟩ := bd hf
            refine m_callV (As := []) (rest := []) C hW hx0 (cX5_next_ok  hx0 h27) mlX5_87 (by decide) rfl hl.1 rfl (Nat.le_of_ble_eq_true rfl) (Nat.le_of_ble_eq_true rfl) (Nat.le_of_ble_eq_true rfl) dX5_takePart_163 (fun H locs hW => ?_)
            refine lv_goto (tgt := 178) C.1 C.2.1 dX5_takePart_166 rfl ?_
            refine lv_iconst C.1 C.2.1 dX5_takePart_178 ic_1 ?_
            cases hf
            exact m_zret C hW rfl dX5_takePart_179
      · have hf := (if_pos c15).symm.trans hf
        refine lv_aload_n C.1 C.2.1 dX5_takePart_110 rfl (lv_at hl 0 rfl) ?_
        refine lv_iconst C.1 C.2.1 dX5_takePart_111 ic_5 ?_
        obtain ⟨q28, h29, hf⟩ := bd hf
        refine m_callV (As := [.int (5 : Int32)]) (rest := []) C hW hx0 (cX5_hold_ok  hx0 h29) mlX5_252 (by decide) rfl hl.1 rfl (Nat.le_of_ble_eq_true rfl) (Nat.le_of_ble_eq_true rfl) (Nat.le_of_ble_eq_true rfl) dX5_takePart_112 (fun H locs hW => ?_)
        refine lv_aload_n C.1 C.2.1 dX5_takePart_115 rfl (lv_at hl 0 rfl) ?_
        refine lv_dup C.1 C.2.1 dX5_takePart_116 rfl ?_
        refine m_geti C hW hx0 flX5_223 dX5_takePart_117 ?_
        refine lv_iconst C.1 C.2.1 dX5_takePart_120 ic_1 ?_
        refine lv_iadd C.1 C.2.1 dX5_takePart_121 ?_
        refine m_puti C hW hx0 fpX5_223 dX5_takePart_122 (fun H locs hW => ?_)
        refine lv_aload_n C.1 C.2.1 dX5_takePart_125 rfl (lv_at hl 0 rfl) ?_
        obtain ⟨q30, h31, hf⟩ := bd hf
        refine m_callV (As := []) (rest := []) C hW hx0 (cX5_next_ok  hx0 h31) mlX5_87 (by decide) rfl hl.1 rfl (Nat.le_of_ble_eq_true rfl) (Nat.le_of_ble_eq_true rfl) (Nat.le_of_ble_eq_true rfl) dX5_takePart_126 (fun H locs hW => ?_)
        refine lv_goto (tgt := 178) C.1 C.2.1 dX5_takePart_129 rfl ?_
        refine lv_iconst C.1 C.2.1 dX5_takePart_178 ic_1 ?_
        cases hf
        exact m_zret C hW rfl dX5_takePart_179
    · have hf := (if_neg c14).symm.trans hf
      exact kX5_takePart_65  C x0 _ _ _ _ hx0 hW (lv_sub hl [0] rfl) hf

set_option maxRecDepth 100000 in
theorem kX5_takePart_35 {p : Program} {l : Launch} {e : Env} {s : State} {m : MethodId} {av : Array Value} {below : List Frame} {meth : Method} {c : Code} {A : Nat → Prop} {G : Gv} {L : List Nat} {q : (Int32 × MS)}  (C : mC p s m av meth c cX5_takePart RX5 1 (some .boolean)) : ∀ (x0 : Nat) (S : MS) (H : Heap) (locs : List Loc) (ls : Array Slot), (x0 < shX.1 ∧ shX.2.1 x0 = 5) → mW G shX L S A s H locs → lv_has ls 1 [(0, .ref (ad L x0))] → fX5_takePart_35  x0 S = some q → W p l e (rmd (4)) s m av below meth c H locs 0 0 (MQ below (mQ G shX L q.2 (some (.int q.1)) A) av s 0 0 A) (F0 m 35 ls []) := by
  intro x0 S H locs ls hx0 hW hl hf
  unfold fX5_takePart_35 at hf
  refine lv_aload_n C.1 C.2.1 dX5_takePart_35 rfl (lv_at hl 0 rfl) ?_
  refine lv_iconst C.1 C.2.1 dX5_takePart_36 ic_2 ?_
  refine lv_aload_n C.1 C.2.1 dX5_takePart_37 rfl (lv_at hl 0 rfl) ?_
  refine m_geti C hW hx0 flX5_62 dX5_takePart_38 ?_
  obtain ⟨q32, h33, hf⟩ := bd hf
  refine m_callV (As := [.int (2 : Int32), .int (gI S x0 7)]) (rest := []) C hW hx0 (cX5_fail_ok  hx0 h33) mlX5_93 (by decide) rfl hl.1 rfl (Nat.le_of_ble_eq_true rfl) (Nat.le_of_ble_eq_true rfl) (Nat.le_of_ble_eq_true rfl) dX5_takePart_41 (fun H locs hW => ?_)
  refine lv_goto (tgt := 178) C.1 C.2.1 dX5_takePart_44 rfl ?_
  refine lv_iconst C.1 C.2.1 dX5_takePart_178 ic_1 ?_
  cases hf
  exact m_zret C hW rfl dX5_takePart_179

set_option maxRecDepth 100000 in
theorem kX5_takePart_18 {p : Program} {l : Launch} {e : Env} {s : State} {m : MethodId} {av : Array Value} {below : List Frame} {meth : Method} {c : Code} {A : Nat → Prop} {G : Gv} {L : List Nat} {q : (Int32 × MS)}  (C : mC p s m av meth c cX5_takePart RX5 1 (some .boolean)) : ∀ (x0 : Nat) (S : MS) (H : Heap) (locs : List Loc) (ls : Array Slot), (x0 < shX.1 ∧ shX.2.1 x0 = 5) → mW G shX L S A s H locs → lv_has ls 1 [(0, .ref (ad L x0))] → fX5_takePart_18  x0 S = some q → W p l e (rmd (4)) s m av below meth c H locs 0 0 (MQ below (mQ G shX L q.2 (some (.int q.1)) A) av s 0 0 A) (F0 m 18 ls []) := by
  intro x0 S H locs ls hx0 hW hl hf
  unfold fX5_takePart_18 at hf
  refine lv_aload_n C.1 C.2.1 dX5_takePart_18 rfl (lv_at hl 0 rfl) ?_
  refine m_geti C hW hx0 flX5_90 dX5_takePart_19 ?_
  refine lv_iconst C.1 C.2.1 dX5_takePart_22 ic_5 ?_
  refine lv_icmp_ne (tgt := 47) C.1 C.2.1 dX5_takePart_23 rfl (fun c34 => ?_) (fun c34 => ?_)
  · have hf := (if_neg c34).symm.trans hf
    exact kX5_takePart_47  C x0 _ _ _ _ hx0 hW (lv_sub hl [0] rfl) hf
  · have hf := (if_pos c34).symm.trans hf
    refine lv_aload_n C.1 C.2.1 dX5_takePart_26 rfl (lv_at hl 0 rfl) ?_
    refine m_geti C hW hx0 flX5_223 dX5_takePart_27 ?_
    refine lv_bipush C.1 C.2.1 dX5_takePart_30 bp_8 ?_
    refine lv_icmp_lt (tgt := 47) C.1 C.2.1 dX5_takePart_32 rfl (fun c35 => ?_) (fun c35 => ?_)
    · have hf := (if_pos c35).symm.trans hf
      exact kX5_takePart_47  C x0 _ _ _ _ hx0 hW (lv_sub hl [0] rfl) hf
    · have hf := (if_neg c35).symm.trans hf
      exact kX5_takePart_35  C x0 _ _ _ _ hx0 hW (lv_sub hl [0] rfl) hf

set_option maxRecDepth 100000 in
theorem cX5_takePart_ok {l : Launch} {G : Gv} {L : List Nat} {S : MS} {a0 : Nat} {q : (Int32 × MS)} (ha0 : a0 < shX.1 ∧ shX.2.1 a0 = 5) (hf : fX5_takePart a0 S = some q) : Mt l yX5_takePart cX5_takePart 1 (some .boolean) (4) G shX L S [.ref (ad L a0)] (some (.int q.1)) q.2 := by
  refine m_enter (lv := [(0, .ref (ad L a0))]) (plainFor_of_name (by decide)) (Nat.le_of_ble_eq_true rfl) rfl ?_
  intro p e s m below meth c A ls C hW hl
  unfold fX5_takePart at hf
  refine lv_aload_n C.1 C.2.1 dX5_takePart_0 rfl (lv_at hl 0 rfl) ?_
  refine m_geti C hW ha0 flX5_90 dX5_takePart_1 ?_
  refine lv_iconst C.1 C.2.1 dX5_takePart_4 ic_3 ?_
  refine lv_icmp_ne (tgt := 18) C.1 C.2.1 dX5_takePart_5 rfl (fun c36 => ?_) (fun c36 => ?_)
  · have hf := (if_neg c36).symm.trans hf
    exact kX5_takePart_18  C a0 _ _ _ _ ha0 hW (lv_sub hl [0] rfl) hf
  · have hf := (if_pos c36).symm.trans hf
    refine lv_aload_n C.1 C.2.1 dX5_takePart_8 rfl (lv_at hl 0 rfl) ?_
    refine m_geti C hW ha0 flX5_217 dX5_takePart_9 ?_
    refine lv_sipush C.1 C.2.1 dX5_takePart_12 sp_9999 ?_
    refine lv_icmp_gt (tgt := 35) C.1 C.2.1 dX5_takePart_15 rfl (fun c37 => ?_) (fun c37 => ?_)
    · have hf := (if_pos c37).symm.trans hf
      exact kX5_takePart_35  C a0 _ _ _ _ ha0 hW (lv_sub hl [0] rfl) hf
    · have hf := (if_neg c37).symm.trans hf
      exact kX5_takePart_18  C a0 _ _ _ _ ha0 hW (lv_sub hl [0] rfl) hf

def fX5_takeClose (a0 : Nat) (S : MS) : Option MS := (fX5_release  a0 (1 : Int32) S).bind fun q1 => (fX5_next  a0 (pI (pI q1 a0 11 ((gI q1 a0 11) - (1 : Int32))) a0 12 ((gI (pI q1 a0 11 ((gI q1 a0 11) - (1 : Int32))) a0 12) - (1 : Int32)))).bind fun q3 => some q3
set_option maxRecDepth 100000 in
theorem cX5_takeClose_ok {l : Launch} {G : Gv} {L : List Nat} {S : MS} {a0 : Nat} {q : MS} (ha0 : a0 < shX.1 ∧ shX.2.1 a0 = 5) (hf : fX5_takeClose a0 S = some q) : Mt l yX5_takeClose cX5_takeClose 1 none (4) G shX L S [.ref (ad L a0)] none q := by
  refine m_enter (lv := [(0, .ref (ad L a0))]) (plainFor_of_name (by decide)) (Nat.le_of_ble_eq_true rfl) rfl ?_
  intro p e s m below meth c A ls C hW hl
  unfold fX5_takeClose at hf
  refine lv_aload_n C.1 C.2.1 dX5_takeClose_0 rfl (lv_at hl 0 rfl) ?_
  refine lv_iconst C.1 C.2.1 dX5_takeClose_1 ic_1 ?_
  obtain ⟨q1, h2, hf⟩ := bd hf
  refine m_callV (As := [.int (1 : Int32)]) (rest := []) C hW ha0 (cX5_release_ok  ha0 h2) mlX5_239 (by decide) rfl hl.1 rfl (Nat.le_of_ble_eq_true rfl) (Nat.le_of_ble_eq_true rfl) (Nat.le_of_ble_eq_true rfl) dX5_takeClose_2 (fun H locs hW => ?_)
  refine lv_aload_n C.1 C.2.1 dX5_takeClose_5 rfl (lv_at hl 0 rfl) ?_
  refine lv_dup C.1 C.2.1 dX5_takeClose_6 rfl ?_
  refine m_geti C hW ha0 flX5_220 dX5_takeClose_7 ?_
  refine lv_iconst C.1 C.2.1 dX5_takeClose_10 ic_1 ?_
  refine lv_isub C.1 C.2.1 dX5_takeClose_11 ?_
  refine m_puti C hW ha0 fpX5_220 dX5_takeClose_12 (fun H locs hW => ?_)
  refine lv_aload_n C.1 C.2.1 dX5_takeClose_15 rfl (lv_at hl 0 rfl) ?_
  refine lv_dup C.1 C.2.1 dX5_takeClose_16 rfl ?_
  refine m_geti C hW ha0 flX5_223 dX5_takeClose_17 ?_
  refine lv_iconst C.1 C.2.1 dX5_takeClose_20 ic_1 ?_
  refine lv_isub C.1 C.2.1 dX5_takeClose_21 ?_
  refine m_puti C hW ha0 fpX5_223 dX5_takeClose_22 (fun H locs hW => ?_)
  refine lv_aload_n C.1 C.2.1 dX5_takeClose_25 rfl (lv_at hl 0 rfl) ?_
  obtain ⟨q3, h4, hf⟩ := bd hf
  refine m_callV (As := []) (rest := []) C hW ha0 (cX5_next_ok  ha0 h4) mlX5_87 (by decide) rfl hl.1 rfl (Nat.le_of_ble_eq_true rfl) (Nat.le_of_ble_eq_true rfl) (Nat.le_of_ble_eq_true rfl) dX5_takeClose_26 (fun H locs hW => ?_)
  cases hf
  exact m_vret C hW dX5_takeClose_29

def fX5_takeSign_59  (x0 : Nat) (S : MS) : Option MS := (fX5_hold  x0 (gI S x0 5) S).bind fun q1 => (fX5_countKnot  x0 q1).bind fun q3 => (fX5_next  x0 q3).bind fun q5 => some q5
def fX5_takeSign_31  (x0 : Nat) (x1 : Int32) (x2 : Int32) (y0 : Nat) (y1 : Int32) (S : MS) : Option MS := (fX5_release  y0 y1 S).bind fun q7 => (if x2 = (0 : Int32) then fX5_takeSign_59  x0 q7 else (fX5_lastWaiting  x0 q7).bind fun q10 => (fX5_rankOf  q10 q7).bind fun q12 => (if q12 = x1 then (fX5_fail  x0 (1 : Int32) (gI q7 x0 7) q7).bind fun q15 => some q15 else fX5_takeSign_59  x0 q7))
def fX5_takeSign_18  (x0 : Nat) (x1 : Int32) (y0 : Int32) (S : MS) : Option MS := (if y0 = (0 : Int32) then fX5_takeSign_31  x0 x1 y0 x0 x1 S else fX5_takeSign_31  x0 x1 y0 x0 (x1 + (1 : Int32)) S)
def fX5_takeSign (a0 : Nat) (S : MS) : Option MS := (fX5_rankOf  (gI S a0 5) S).bind fun q18 => (if q18 = (4 : Int32) then fX5_takeSign_18  a0 q18 (1 : Int32) S else fX5_takeSign_18  a0 q18 (0 : Int32) S)
set_option maxRecDepth 100000 in
theorem kX5_takeSign_59 {p : Program} {l : Launch} {e : Env} {s : State} {m : MethodId} {av : Array Value} {below : List Frame} {meth : Method} {c : Code} {A : Nat → Prop} {G : Gv} {L : List Nat} {q : MS}  (C : mC p s m av meth c cX5_takeSign RX5 3 none) : ∀ (x0 : Nat) (S : MS) (H : Heap) (locs : List Loc) (ls : Array Slot), (x0 < shX.1 ∧ shX.2.1 x0 = 5) → mW G shX L S A s H locs → lv_has ls 3 [(0, .ref (ad L x0))] → fX5_takeSign_59  x0 S = some q → W p l e (rmd (4)) s m av below meth c H locs 0 0 (MQ below (mQ G shX L q none A) av s 0 0 A) (F0 m 59 ls []) := by
  intro x0 S H locs ls hx0 hW hl hf
  unfold fX5_takeSign_59 at hf
  refine lv_aload_n C.1 C.2.1 dX5_takeSign_59 rfl (lv_at hl 0 rfl) ?_
  refine lv_aload_n C.1 C.2.1 dX5_takeSign_60 rfl (lv_at hl 0 rfl) ?_
  refine m_geti C hW hx0 flX5_90 dX5_takeSign_61 ?_
  obtain ⟨q1, h2, hf⟩ := bd hf
  refine m_callV (As := [.int (gI S x0 5)]) (rest := []) C hW hx0 (cX5_hold_ok  hx0 h2) mlX5_252 (by decide) rfl hl.1 rfl (Nat.le_of_ble_eq_true rfl) (Nat.le_of_ble_eq_true rfl) (Nat.le_of_ble_eq_true rfl) dX5_takeSign_64 (fun H locs hW => ?_)
  refine lv_aload_n C.1 C.2.1 dX5_takeSign_67 rfl (lv_at hl 0 rfl) ?_
  obtain ⟨q3, h4, hf⟩ := bd hf
  refine m_callV (As := []) (rest := []) C hW hx0 (cX5_countKnot_ok  hx0 h4) mlX5_249 (by decide) rfl hl.1 rfl (Nat.le_of_ble_eq_true rfl) (Nat.le_of_ble_eq_true rfl) (Nat.le_of_ble_eq_true rfl) dX5_takeSign_68 (fun H locs hW => ?_)
  refine lv_aload_n C.1 C.2.1 dX5_takeSign_71 rfl (lv_at hl 0 rfl) ?_
  obtain ⟨q5, h6, hf⟩ := bd hf
  refine m_callV (As := []) (rest := []) C hW hx0 (cX5_next_ok  hx0 h6) mlX5_87 (by decide) rfl hl.1 rfl (Nat.le_of_ble_eq_true rfl) (Nat.le_of_ble_eq_true rfl) (Nat.le_of_ble_eq_true rfl) dX5_takeSign_72 (fun H locs hW => ?_)
  cases hf
  exact m_vret C hW dX5_takeSign_75

set_option maxRecDepth 100000 in
theorem kX5_takeSign_31 {p : Program} {l : Launch} {e : Env} {s : State} {m : MethodId} {av : Array Value} {below : List Frame} {meth : Method} {c : Code} {A : Nat → Prop} {G : Gv} {L : List Nat} {q : MS}  (C : mC p s m av meth c cX5_takeSign RX5 3 none) : ∀ (x0 : Nat) (x1 : Int32) (x2 : Int32) (y0 : Nat) (y1 : Int32) (S : MS) (H : Heap) (locs : List Loc) (ls : Array Slot), (x0 < shX.1 ∧ shX.2.1 x0 = 5) → (y0 < shX.1 ∧ shX.2.1 y0 = 5) → mW G shX L S A s H locs → lv_has ls 3 [(0, .ref (ad L x0)), (1, .int x1), (2, .int x2)] → fX5_takeSign_31  x0 x1 x2 y0 y1 S = some q → W p l e (rmd (4)) s m av below meth c H locs 0 0 (MQ below (mQ G shX L q none A) av s 0 0 A) (F0 m 31 ls [.int y1, .ref (ad L y0)]) := by
  intro x0 x1 x2 y0 y1 S H locs ls hx0 hy0 hW hl hf
  unfold fX5_takeSign_31 at hf
  obtain ⟨q7, h8, hf⟩ := bd hf
  refine m_callV (As := [.int y1]) (rest := []) C hW hy0 (cX5_release_ok  hy0 h8) mlX5_239 (by decide) rfl hl.1 rfl (Nat.le_of_ble_eq_true rfl) (Nat.le_of_ble_eq_true rfl) (Nat.le_of_ble_eq_true rfl) dX5_takeSign_31 (fun H locs hW => ?_)
  refine lv_iload_n C.1 C.2.1 dX5_takeSign_34 rfl (lv_at hl 2 rfl) ?_
  refine lv_if_eq (tgt := 59) C.1 C.2.1 dX5_takeSign_35 rfl (fun c9 => ?_) (fun c9 => ?_)
  · have hf := (if_pos c9).symm.trans hf
    exact kX5_takeSign_59  C x0 _ _ _ _ hx0 hW (lv_sub hl [0] rfl) hf
  · have hf := (if_neg c9).symm.trans hf
    refine lv_aload_n C.1 C.2.1 dX5_takeSign_38 rfl (lv_at hl 0 rfl) ?_
    obtain ⟨q10, h11, hf⟩ := bd hf
    refine m_callV (As := []) (rest := []) C hW hx0 (cX5_lastWaiting_ok  hx0 h11) mlX5_255 (by decide) rfl hl.1 rfl (Nat.le_of_ble_eq_true rfl) (Nat.le_of_ble_eq_true rfl) (Nat.le_of_ble_eq_true rfl) dX5_takeSign_39 (fun H locs hW => ?_)
    obtain ⟨q12, h13, hf⟩ := bd hf
    refine m_callS (As := [.int q10]) (rest := []) C hW (cX5_rankOf_ok   h13) mlX5_232 rfl hl.1 rfl (Nat.le_of_ble_eq_true rfl) (Nat.le_of_ble_eq_true rfl) (Nat.le_of_ble_eq_true rfl) dX5_takeSign_42 (fun H locs hW => ?_)
    refine lv_iload_n C.1 C.2.1 dX5_takeSign_45 rfl (lv_at hl 1 rfl) ?_
    refine lv_icmp_ne (tgt := 59) C.1 C.2.1 dX5_takeSign_46 rfl (fun c14 => ?_) (fun c14 => ?_)
    · have hf := (if_neg c14).symm.trans hf
      exact kX5_takeSign_59  C x0 _ _ _ _ hx0 hW (lv_sub hl [0] rfl) hf
    · have hf := (if_pos c14).symm.trans hf
      refine lv_aload_n C.1 C.2.1 dX5_takeSign_49 rfl (lv_at hl 0 rfl) ?_
      refine lv_iconst C.1 C.2.1 dX5_takeSign_50 ic_1 ?_
      refine lv_aload_n C.1 C.2.1 dX5_takeSign_51 rfl (lv_at hl 0 rfl) ?_
      refine m_geti C hW hx0 flX5_62 dX5_takeSign_52 ?_
      obtain ⟨q15, h16, hf⟩ := bd hf
      refine m_callV (As := [.int (1 : Int32), .int (gI q7 x0 7)]) (rest := []) C hW hx0 (cX5_fail_ok  hx0 h16) mlX5_93 (by decide) rfl hl.1 rfl (Nat.le_of_ble_eq_true rfl) (Nat.le_of_ble_eq_true rfl) (Nat.le_of_ble_eq_true rfl) dX5_takeSign_55 (fun H locs hW => ?_)
      cases hf
      exact m_vret C hW dX5_takeSign_58

set_option maxRecDepth 100000 in
theorem kX5_takeSign_18 {p : Program} {l : Launch} {e : Env} {s : State} {m : MethodId} {av : Array Value} {below : List Frame} {meth : Method} {c : Code} {A : Nat → Prop} {G : Gv} {L : List Nat} {q : MS}  (C : mC p s m av meth c cX5_takeSign RX5 3 none) : ∀ (x0 : Nat) (x1 : Int32) (y0 : Int32) (S : MS) (H : Heap) (locs : List Loc) (ls : Array Slot), (x0 < shX.1 ∧ shX.2.1 x0 = 5) → mW G shX L S A s H locs → lv_has ls 3 [(0, .ref (ad L x0)), (1, .int x1)] → fX5_takeSign_18  x0 x1 y0 S = some q → W p l e (rmd (4)) s m av below meth c H locs 0 0 (MQ below (mQ G shX L q none A) av s 0 0 A) (F0 m 18 ls [.int y0]) := by
  intro x0 x1 y0 S H locs ls hx0 hW hl hf
  unfold fX5_takeSign_18 at hf
  refine lv_istore_n (lv' := [(2, .int y0), (0, .ref (ad L x0)), (1, .int x1)]) C.1 C.2.1 dX5_takeSign_18 rfl hl (by decide) rfl (fun ls hl => ?_)
  refine lv_aload_n C.1 C.2.1 dX5_takeSign_19 rfl (lv_at hl 1 rfl) ?_
  refine lv_iload_n C.1 C.2.1 dX5_takeSign_20 rfl (lv_at hl 0 rfl) ?_
  refine lv_if_eq (tgt := 30) C.1 C.2.1 dX5_takeSign_21 rfl (fun c17 => ?_) (fun c17 => ?_)
  · have hf := (if_pos c17).symm.trans hf
    refine lv_iload_n C.1 C.2.1 dX5_takeSign_30 rfl (lv_at hl 2 rfl) ?_
    exact kX5_takeSign_31  C x0 x1 y0 x0 x1 _ _ _ _ hx0 hx0 hW (lv_sub hl [1, 2, 0] rfl) hf
  · have hf := (if_neg c17).symm.trans hf
    refine lv_iload_n C.1 C.2.1 dX5_takeSign_24 rfl (lv_at hl 2 rfl) ?_
    refine lv_iconst C.1 C.2.1 dX5_takeSign_25 ic_1 ?_
    refine lv_iadd C.1 C.2.1 dX5_takeSign_26 ?_
    refine lv_goto (tgt := 31) C.1 C.2.1 dX5_takeSign_27 rfl ?_
    exact kX5_takeSign_31  C x0 x1 y0 x0 (x1 + (1 : Int32)) _ _ _ _ hx0 hx0 hW (lv_sub hl [1, 2, 0] rfl) hf

set_option maxRecDepth 100000 in
theorem cX5_takeSign_ok {l : Launch} {G : Gv} {L : List Nat} {S : MS} {a0 : Nat} {q : MS} (ha0 : a0 < shX.1 ∧ shX.2.1 a0 = 5) (hf : fX5_takeSign a0 S = some q) : Mt l yX5_takeSign cX5_takeSign 3 none (4) G shX L S [.ref (ad L a0)] none q := by
  refine m_enter (lv := [(0, .ref (ad L a0))]) (plainFor_of_name (by decide)) (Nat.le_of_ble_eq_true rfl) rfl ?_
  intro p e s m below meth c A ls C hW hl
  unfold fX5_takeSign at hf
  refine lv_aload_n C.1 C.2.1 dX5_takeSign_0 rfl (lv_at hl 0 rfl) ?_
  refine m_geti C hW ha0 flX5_90 dX5_takeSign_1 ?_
  obtain ⟨q18, h19, hf⟩ := bd hf
  refine m_callS (As := [.int (gI S a0 5)]) (rest := []) C hW (cX5_rankOf_ok   h19) mlX5_232 rfl hl.1 rfl (Nat.le_of_ble_eq_true rfl) (Nat.le_of_ble_eq_true rfl) (Nat.le_of_ble_eq_true rfl) dX5_takeSign_4 (fun H locs hW => ?_)
  refine lv_istore_n (lv' := [(1, .int q18), (0, .ref (ad L a0))]) C.1 C.2.1 dX5_takeSign_7 rfl hl (by decide) rfl (fun ls hl => ?_)
  refine lv_iload_n C.1 C.2.1 dX5_takeSign_8 rfl (lv_at hl 0 rfl) ?_
  refine lv_iconst C.1 C.2.1 dX5_takeSign_9 ic_4 ?_
  refine lv_icmp_ne (tgt := 17) C.1 C.2.1 dX5_takeSign_10 rfl (fun c20 => ?_) (fun c20 => ?_)
  · have hf := (if_neg c20).symm.trans hf
    refine lv_iconst C.1 C.2.1 dX5_takeSign_17 ic_0 ?_
    exact kX5_takeSign_18  C a0 q18 (0 : Int32) _ _ _ _ ha0 hW (lv_sub hl [1, 0] rfl) hf
  · have hf := (if_pos c20).symm.trans hf
    refine lv_iconst C.1 C.2.1 dX5_takeSign_13 ic_1 ?_
    refine lv_goto (tgt := 18) C.1 C.2.1 dX5_takeSign_14 rfl ?_
    exact kX5_takeSign_18  C a0 q18 (1 : Int32) _ _ _ _ ha0 hW (lv_sub hl [1, 0] rfl) hf

def fX0_attempt (a0 : Nat) (a1 : Nat) (a2 : Int32) (a3 : Int32) (S : MS) : Option MS := (fX0_isOpen  a0 a1 a2 a3 S).bind fun q1 => (if q1 = (0 : Int32) then some (pI S a1 9 ((gI S a1 9) + (1 : Int32))) else (fX10_downBy  a2 S).bind fun q4 => (fX10_rightBy  a2 (pI S a1 4 ((gI S a1 4) + q4))).bind fun q6 => (if a3 &&& (8 : Int32) = (0 : Int32) then (fX0_tell  a0 a1 (0 : Int32) (0 : Int32) (0 : Int32) (pI (pI S a1 4 ((gI S a1 4) + q4)) a1 5 ((gI (pI S a1 4 ((gI S a1 4) + q4)) a1 5) + q6))).bind fun q9 => (fX0_within  a0 (2 : Int32) (9 : Int32) (1 : Int32) q9).bind fun q11 => (fX9_tireBy  a1 q11.1 q11.2).bind fun q13 => some q13 else some (pI (pI S a1 4 ((gI S a1 4) + q4)) a1 5 ((gI (pI S a1 4 ((gI S a1 4) + q4)) a1 5) + q6))))
set_option maxRecDepth 100000 in
theorem cX0_attempt_ok {l : Launch} {G : Gv} {L : List Nat} {S : MS} {a0 : Nat} {a1 : Nat} {a2 : Int32} {a3 : Int32} {q : MS} (ha0 : a0 < shX.1 ∧ shX.2.1 a0 = 0) (ha1 : a1 < shX.1 ∧ shX.2.1 a1 = 9) (hf : fX0_attempt a0 a1 a2 a3 S = some q) : Mt l yX0_attempt cX0_attempt 4 none (4) G shX L S [.ref (ad L a0), .ref (ad L a1), .int a2, .int a3] none q := by
  refine m_enter (lv := [(0, .ref (ad L a0)), (1, .ref (ad L a1)), (2, .int a2), (3, .int a3)]) (plainFor_of_name (by decide)) (Nat.le_of_ble_eq_true rfl) rfl ?_
  intro p e s m below meth c A ls C hW hl
  unfold fX0_attempt at hf
  refine lv_aload_n C.1 C.2.1 dX0_attempt_0 rfl (lv_at hl 0 rfl) ?_
  refine lv_aload_n C.1 C.2.1 dX0_attempt_1 rfl (lv_at hl 1 rfl) ?_
  refine lv_iload_n C.1 C.2.1 dX0_attempt_2 rfl (lv_at hl 2 rfl) ?_
  refine lv_iload_n C.1 C.2.1 dX0_attempt_3 rfl (lv_at hl 3 rfl) ?_
  obtain ⟨q1, h2, hf⟩ := bd hf
  refine m_callV (As := [.ref (ad L a1), .int a2, .int a3]) (rest := []) C hW ha0 (cX0_isOpen_ok  ha0 ha1 h2) mlX0_90 (by decide) rfl hl.1 rfl (Nat.le_of_ble_eq_true rfl) (Nat.le_of_ble_eq_true rfl) (Nat.le_of_ble_eq_true rfl) dX0_attempt_4 (fun H locs hW => ?_)
  refine lv_if_ne (tgt := 21) C.1 C.2.1 dX0_attempt_7 rfl (fun c3 => ?_) (fun c3 => ?_)
  · have hf := (if_neg c3).symm.trans hf
    refine lv_aload_n C.1 C.2.1 dX0_attempt_21 rfl (lv_at hl 1 rfl) ?_
    refine lv_dup C.1 C.2.1 dX0_attempt_22 rfl ?_
    refine m_geti C hW ha1 flX0_97 dX0_attempt_23 ?_
    refine lv_iload_n C.1 C.2.1 dX0_attempt_26 rfl (lv_at hl 2 rfl) ?_
    obtain ⟨q4, h5, hf⟩ := bd hf
    refine m_callS (As := [.int a2]) (rest := [.int (gI S a1 4), .ref (ad L a1)]) C hW (cX10_downBy_ok   h5) mlX0_100 rfl hl.1 rfl (Nat.le_of_ble_eq_true rfl) (Nat.le_of_ble_eq_true rfl) (Nat.le_of_ble_eq_true rfl) dX0_attempt_27 (fun H locs hW => ?_)
    refine lv_iadd C.1 C.2.1 dX0_attempt_30 ?_
    refine m_puti C hW ha1 fpX0_97 dX0_attempt_31 (fun H locs hW => ?_)
    refine lv_aload_n C.1 C.2.1 dX0_attempt_34 rfl (lv_at hl 1 rfl) ?_
    refine lv_dup C.1 C.2.1 dX0_attempt_35 rfl ?_
    refine m_geti C hW ha1 flX0_104 dX0_attempt_36 ?_
    refine lv_iload_n C.1 C.2.1 dX0_attempt_39 rfl (lv_at hl 2 rfl) ?_
    obtain ⟨q6, h7, hf⟩ := bd hf
    refine m_callS (As := [.int a2]) (rest := [.int (gI (pI S a1 4 ((gI S a1 4) + q4)) a1 5), .ref (ad L a1)]) C hW (cX10_rightBy_ok   h7) mlX0_107 rfl hl.1 rfl (Nat.le_of_ble_eq_true rfl) (Nat.le_of_ble_eq_true rfl) (Nat.le_of_ble_eq_true rfl) dX0_attempt_40 (fun H locs hW => ?_)
    refine lv_iadd C.1 C.2.1 dX0_attempt_43 ?_
    refine m_puti C hW ha1 fpX0_104 dX0_attempt_44 (fun H locs hW => ?_)
    refine lv_iload_n C.1 C.2.1 dX0_attempt_47 rfl (lv_at hl 3 rfl) ?_
    refine lv_bipush C.1 C.2.1 dX0_attempt_48 bp_8 ?_
    refine lv_iand C.1 C.2.1 dX0_attempt_50 ?_
    refine lv_if_ne (tgt := 74) C.1 C.2.1 dX0_attempt_51 rfl (fun c8 => ?_) (fun c8 => ?_)
    · have hf := (if_neg c8).symm.trans hf
      cases hf
      exact m_vret C hW dX0_attempt_74
    · have hf := (if_pos c8).symm.trans hf
      refine lv_aload_n C.1 C.2.1 dX0_attempt_54 rfl (lv_at hl 0 rfl) ?_
      refine lv_aload_n C.1 C.2.1 dX0_attempt_55 rfl (lv_at hl 1 rfl) ?_
      refine lv_iconst C.1 C.2.1 dX0_attempt_56 ic_0 ?_
      refine lv_iconst C.1 C.2.1 dX0_attempt_57 ic_0 ?_
      refine lv_iconst C.1 C.2.1 dX0_attempt_58 ic_0 ?_
      obtain ⟨q9, h10, hf⟩ := bd hf
      refine m_callV (As := [.ref (ad L a1), .int (0 : Int32), .int (0 : Int32), .int (0 : Int32)]) (rest := []) C hW ha0 (cX0_tell_ok  ha0 ha1 h10) mlX0_110 (by decide) rfl hl.1 rfl (Nat.le_of_ble_eq_true rfl) (Nat.le_of_ble_eq_true rfl) (Nat.le_of_ble_eq_true rfl) dX0_attempt_59 (fun H locs hW => ?_)
      refine lv_aload_n C.1 C.2.1 dX0_attempt_62 rfl (lv_at hl 1 rfl) ?_
      refine lv_aload_n C.1 C.2.1 dX0_attempt_63 rfl (lv_at hl 0 rfl) ?_
      refine lv_iconst C.1 C.2.1 dX0_attempt_64 ic_2 ?_
      refine lv_bipush C.1 C.2.1 dX0_attempt_65 bp_9 ?_
      refine lv_iconst C.1 C.2.1 dX0_attempt_67 ic_1 ?_
      obtain ⟨q11, h12, hf⟩ := bd hf
      refine m_callV (As := [.int (2 : Int32), .int (9 : Int32), .int (1 : Int32)]) (rest := [.ref (ad L a1)]) C hW ha0 (cX0_within_ok  ha0 h12) mlX0_114 (by decide) rfl hl.1 rfl (Nat.le_of_ble_eq_true rfl) (Nat.le_of_ble_eq_true rfl) (Nat.le_of_ble_eq_true rfl) dX0_attempt_68 (fun H locs hW => ?_)
      obtain ⟨q13, h14, hf⟩ := bd hf
      refine m_callV (As := [.int q11.1]) (rest := []) C hW ha1 (cX9_tireBy_ok  ha1 h14) mlX0_118 (by decide) rfl hl.1 rfl (Nat.le_of_ble_eq_true rfl) (Nat.le_of_ble_eq_true rfl) (Nat.le_of_ble_eq_true rfl) dX0_attempt_71 (fun H locs hW => ?_)
      cases hf
      exact m_vret C hW dX0_attempt_74
  · have hf := (if_pos c3).symm.trans hf
    refine lv_aload_n C.1 C.2.1 dX0_attempt_10 rfl (lv_at hl 1 rfl) ?_
    refine lv_dup C.1 C.2.1 dX0_attempt_11 rfl ?_
    refine m_geti C hW ha1 flX0_94 dX0_attempt_12 ?_
    refine lv_iconst C.1 C.2.1 dX0_attempt_15 ic_1 ?_
    refine lv_iadd C.1 C.2.1 dX0_attempt_16 ?_
    refine m_puti C hW ha1 fpX0_94 dX0_attempt_17 (fun H locs hW => ?_)
    cases hf
    exact m_vret C hW dX0_attempt_20

def fX0_fall_208  (x1 : Nat) (S : MS) : Option MS := (fX9_isSheAt  x1 (gI S x1 12) (gI S x1 13) S).bind fun q1 => (if isB q1 = true then some (pI S x1 14 q1) else none)
def fX0_fall_175  (x0 : Nat) (x1 : Nat) (x5 : Int32) (x6 : Int32) (S : MS) : Option MS := (fX10_rightBy  x5 S).bind fun q5 => fX0_fall_208  x1 (pI S x1 13 (if (0 : Int32) < (if ((gI S x1 5) + (x6 * q5)) < ((gI S (gR S x0 1) 9) - (1 : Int32)) then ((gI S x1 5) + (x6 * q5)) else ((gI S (gR S x0 1) 9) - (1 : Int32))) then (if ((gI S x1 5) + (x6 * q5)) < ((gI S (gR S x0 1) 9) - (1 : Int32)) then ((gI S x1 5) + (x6 * q5)) else ((gI S (gR S x0 1) 9) - (1 : Int32))) else (0 : Int32)))
def fX0_fall_140  (x0 : Nat) (x1 : Nat) (x5 : Int32) (y0 : Int32) (S : MS) : Option MS := (fX10_downBy  x5 S).bind fun q8 => fX0_fall_175  x0 x1 x5 y0 (pI S x1 12 (if (0 : Int32) < (if ((gI S x1 4) + (y0 * q8)) < ((gI S (gR S x0 1) 8) - (1 : Int32)) then ((gI S x1 4) + (y0 * q8)) else ((gI S (gR S x0 1) 8) - (1 : Int32))) then (if ((gI S x1 4) + (y0 * q8)) < ((gI S (gR S x0 1) 8) - (1 : Int32)) then ((gI S x1 4) + (y0 * q8)) else ((gI S (gR S x0 1) 8) - (1 : Int32))) else (0 : Int32)))
def fX0_fall_107  (x0 : Nat) (x1 : Nat) (x5 : Int32) (S : MS) : Option MS := (fX0_tell  x0 x1 (gI S x1 15) (0 : Int32) (0 : Int32) S).bind fun q10 => (if gI q10 x1 15 = (0 : Int32) then fX0_fall_140  x0 x1 x5 (0 : Int32) q10 else (fX0_within  x0 (0 : Int32) (7 : Int32) (gI q10 x1 15) q10).bind fun q13 => fX0_fall_140  x0 x1 x5 q13.1 q13.2)
def fX0_fall_104  (x0 : Nat) (x1 : Nat) (x5 : Int32) (y0 : Nat) (y1 : Int32) (S : MS) : Option MS := fX0_fall_107  x0 x1 x5 (pI S y0 15 y1)
def fX0_fall_26  (x0 : Nat) (x1 : Nat) (y0 : Int32) (S : MS) : Option MS := (fX7_get  (gR S (gR S x0 1) 2) y0 (2 : Int32) S).bind fun q17 => (if (gI (pI S x1 15 q17) x1 15) ≤ (0 : Int32) then (fX0_nearestLamp  x0 x1 (pI S x1 15 q17)).bind fun q20 => (fX0_wayFrom  x0 x1 q20 (pI S x1 15 q17)).bind fun q22 => (if q20 = (-1 : Int32) then fX0_fall_104  x0 x1 q22 x1 (0 : Int32) (pI S x1 15 q17) else (fX0_distance  x0 x1 q20 (pI S x1 15 q17)).bind fun q25 => fX0_fall_104  x0 x1 q22 x1 q25 (pI S x1 15 q17)) else (fX7_get  (gR (pI S x1 15 q17) (gR (pI S x1 15 q17) x0 1) 2) y0 (1 : Int32) (pI S x1 15 q17)).bind fun q29 => fX0_fall_107  x0 x1 q29 (pI S x1 15 q17))
def fX0_fall_11  (x0 : Nat) (x1 : Nat) (S : MS) : Option MS := fX0_fall_26  x0 x1 (-1 : Int32) S
def fX0_fall (a0 : Nat) (a1 : Nat) (a2 : Int32) (a3 : Int32) (S : MS) : Option MS := (if a2 = (0 : Int32) then (if a3 &&& (16 : Int32) = (0 : Int32) then (fX8_sunOf  (gR S a0 1) (gI S a1 3) S).bind fun q34 => fX0_fall_26  a0 a1 q34 S else fX0_fall_11  a0 a1 S) else fX0_fall_11  a0 a1 S)
set_option maxRecDepth 100000 in
theorem kX0_fall_208 {p : Program} {l : Launch} {e : Env} {s : State} {m : MethodId} {av : Array Value} {below : List Frame} {meth : Method} {c : Code} {A : Nat → Prop} {G : Gv} {L : List Nat} {q : MS}  (C : mC p s m av meth c cX0_fall RX0 7 none) : ∀ (x1 : Nat) (S : MS) (H : Heap) (locs : List Loc) (ls : Array Slot), (x1 < shX.1 ∧ shX.2.1 x1 = 9) → mW G shX L S A s H locs → lv_has ls 7 [(1, .ref (ad L x1))] → fX0_fall_208  x1 S = some q → W p l e (rmd (4)) s m av below meth c H locs 0 0 (MQ below (mQ G shX L q none A) av s 0 0 A) (F0 m 208 ls []) := by
  intro x1 S H locs ls hx1 hW hl hf
  unfold fX0_fall_208 at hf
  refine lv_aload_n C.1 C.2.1 dX0_fall_208 rfl (lv_at hl 0 rfl) ?_
  refine lv_aload_n C.1 C.2.1 dX0_fall_209 rfl (lv_at hl 0 rfl) ?_
  refine lv_aload_n C.1 C.2.1 dX0_fall_210 rfl (lv_at hl 0 rfl) ?_
  refine m_geti C hW hx1 flX0_157 dX0_fall_211 ?_
  refine lv_aload_n C.1 C.2.1 dX0_fall_214 rfl (lv_at hl 0 rfl) ?_
  refine m_geti C hW hx1 flX0_163 dX0_fall_215 ?_
  obtain ⟨q1, h2, hf⟩ := bd hf
  refine m_callV (As := [.int (gI S x1 12), .int (gI S x1 13)]) (rest := [.ref (ad L x1)]) C hW hx1 (cX9_isSheAt_ok  hx1 h2) mlX0_166 (by decide) rfl hl.1 rfl (Nat.le_of_ble_eq_true rfl) (Nat.le_of_ble_eq_true rfl) (Nat.le_of_ble_eq_true rfl) dX0_fall_218 (fun H locs hW => ?_)
  obtain ⟨hb3, hf⟩ := gd hf
  refine m_putz C hW hx1 fpX0_57 hb3 dX0_fall_221 (fun H locs hW => ?_)
  cases hf
  exact m_vret C hW dX0_fall_224

set_option maxRecDepth 100000 in
theorem kX0_fall_175 {p : Program} {l : Launch} {e : Env} {s : State} {m : MethodId} {av : Array Value} {below : List Frame} {meth : Method} {c : Code} {A : Nat → Prop} {G : Gv} {L : List Nat} {q : MS}  (C : mC p s m av meth c cX0_fall RX0 7 none) : ∀ (x0 : Nat) (x1 : Nat) (x5 : Int32) (x6 : Int32) (S : MS) (H : Heap) (locs : List Loc) (ls : Array Slot), (x0 < shX.1 ∧ shX.2.1 x0 = 0) → (x1 < shX.1 ∧ shX.2.1 x1 = 9) → mW G shX L S A s H locs → lv_has ls 7 [(0, .ref (ad L x0)), (1, .ref (ad L x1)), (5, .int x5), (6, .int x6)] → fX0_fall_175  x0 x1 x5 x6 S = some q → W p l e (rmd (4)) s m av below meth c H locs 0 0 (MQ below (mQ G shX L q none A) av s 0 0 A) (F0 m 175 ls []) := by
  intro x0 x1 x5 x6 S H locs ls hx0 hx1 hW hl hf
  unfold fX0_fall_175 at hf
  refine lv_aload_n C.1 C.2.1 dX0_fall_175 rfl (lv_at hl 1 rfl) ?_
  refine lv_iconst C.1 C.2.1 dX0_fall_176 ic_0 ?_
  refine lv_aload_n C.1 C.2.1 dX0_fall_177 rfl (lv_at hl 0 rfl) ?_
  refine m_getr C hW hx0 flX0_15 (by decide) dX0_fall_178 (fun hk4 => ?_)
  refine m_geti C hW hk4 flX0_160 dX0_fall_181 ?_
  refine lv_iconst C.1 C.2.1 dX0_fall_184 ic_1 ?_
  refine lv_isub C.1 C.2.1 dX0_fall_185 ?_
  refine lv_aload_n C.1 C.2.1 dX0_fall_186 rfl (lv_at hl 1 rfl) ?_
  refine m_geti C hW hx1 flX0_104 dX0_fall_187 ?_
  refine lv_iload C.1 C.2.1 dX0_fall_190 (lv_at hl 3 rfl) ?_
  refine lv_iload C.1 C.2.1 dX0_fall_192 (lv_at hl 2 rfl) ?_
  obtain ⟨q5, h6, hf⟩ := bd hf
  refine m_callS (As := [.int x5]) (rest := [.int x6, .int (gI S x1 5), .int ((gI S (gR S x0 1) 9) - (1 : Int32)), .int (0 : Int32), .ref (ad L x1)]) C hW (cX10_rightBy_ok   h6) mlX0_107 rfl hl.1 rfl (Nat.le_of_ble_eq_true rfl) (Nat.le_of_ble_eq_true rfl) (Nat.le_of_ble_eq_true rfl) dX0_fall_194 (fun H locs hW => ?_)
  refine lv_imul C.1 C.2.1 dX0_fall_197 ?_
  refine lv_iadd C.1 C.2.1 dX0_fall_198 ?_
  refine va_mmin C.1 C.2.1 (C.2.2.1.trans hl.1.symm) C.2.2.2.1 (C.2.2.2.2.1 _ kw_951) (C.2.2.2.2.1 _ kw_696) (C.2.2.2.2.1 _ kw_135) (C.2.2.2.2.1 _ kw_697) (Nat.le_of_ble_eq_true rfl) (Nat.le_of_ble_eq_true rfl) (Nat.le_refl 0) (Nat.le_refl 0) dX0_fall_199 ?_
  refine va_mmax C.1 C.2.1 (C.2.2.1.trans hl.1.symm) C.2.2.2.1 (C.2.2.2.2.1 _ kw_952) (C.2.2.2.2.1 _ kw_953) (C.2.2.2.2.1 _ kw_135) (C.2.2.2.2.1 _ kw_954) (Nat.le_of_ble_eq_true rfl) (Nat.le_of_ble_eq_true rfl) (Nat.le_refl 0) (Nat.le_refl 0) dX0_fall_202 ?_
  refine m_puti C hW hx1 fpX0_163 dX0_fall_205 (fun H locs hW => ?_)
  exact kX0_fall_208  C x1 _ _ _ _ hx1 hW (lv_sub hl [1] rfl) hf

set_option maxRecDepth 100000 in
theorem kX0_fall_140 {p : Program} {l : Launch} {e : Env} {s : State} {m : MethodId} {av : Array Value} {below : List Frame} {meth : Method} {c : Code} {A : Nat → Prop} {G : Gv} {L : List Nat} {q : MS}  (C : mC p s m av meth c cX0_fall RX0 7 none) : ∀ (x0 : Nat) (x1 : Nat) (x5 : Int32) (y0 : Int32) (S : MS) (H : Heap) (locs : List Loc) (ls : Array Slot), (x0 < shX.1 ∧ shX.2.1 x0 = 0) → (x1 < shX.1 ∧ shX.2.1 x1 = 9) → mW G shX L S A s H locs → lv_has ls 7 [(0, .ref (ad L x0)), (1, .ref (ad L x1)), (5, .int x5)] → fX0_fall_140  x0 x1 x5 y0 S = some q → W p l e (rmd (4)) s m av below meth c H locs 0 0 (MQ below (mQ G shX L q none A) av s 0 0 A) (F0 m 140 ls [.int y0]) := by
  intro x0 x1 x5 y0 S H locs ls hx0 hx1 hW hl hf
  unfold fX0_fall_140 at hf
  refine lv_istore (lv' := [(6, .int y0), (0, .ref (ad L x0)), (1, .ref (ad L x1)), (5, .int x5)]) C.1 C.2.1 dX0_fall_140 hl (by decide) rfl (fun ls hl => ?_)
  refine lv_aload_n C.1 C.2.1 dX0_fall_142 rfl (lv_at hl 2 rfl) ?_
  refine lv_iconst C.1 C.2.1 dX0_fall_143 ic_0 ?_
  refine lv_aload_n C.1 C.2.1 dX0_fall_144 rfl (lv_at hl 1 rfl) ?_
  refine m_getr C hW hx0 flX0_15 (by decide) dX0_fall_145 (fun hk7 => ?_)
  refine m_geti C hW hk7 flX0_146 dX0_fall_148 ?_
  refine lv_iconst C.1 C.2.1 dX0_fall_151 ic_1 ?_
  refine lv_isub C.1 C.2.1 dX0_fall_152 ?_
  refine lv_aload_n C.1 C.2.1 dX0_fall_153 rfl (lv_at hl 2 rfl) ?_
  refine m_geti C hW hx1 flX0_97 dX0_fall_154 ?_
  refine lv_iload C.1 C.2.1 dX0_fall_157 (lv_at hl 0 rfl) ?_
  refine lv_iload C.1 C.2.1 dX0_fall_159 (lv_at hl 3 rfl) ?_
  obtain ⟨q8, h9, hf⟩ := bd hf
  refine m_callS (As := [.int x5]) (rest := [.int y0, .int (gI S x1 4), .int ((gI S (gR S x0 1) 8) - (1 : Int32)), .int (0 : Int32), .ref (ad L x1)]) C hW (cX10_downBy_ok   h9) mlX0_100 rfl hl.1 rfl (Nat.le_of_ble_eq_true rfl) (Nat.le_of_ble_eq_true rfl) (Nat.le_of_ble_eq_true rfl) dX0_fall_161 (fun H locs hW => ?_)
  refine lv_imul C.1 C.2.1 dX0_fall_164 ?_
  refine lv_iadd C.1 C.2.1 dX0_fall_165 ?_
  refine va_mmin C.1 C.2.1 (C.2.2.1.trans hl.1.symm) C.2.2.2.1 (C.2.2.2.2.1 _ kw_951) (C.2.2.2.2.1 _ kw_696) (C.2.2.2.2.1 _ kw_135) (C.2.2.2.2.1 _ kw_697) (Nat.le_of_ble_eq_true rfl) (Nat.le_of_ble_eq_true rfl) (Nat.le_refl 0) (Nat.le_refl 0) dX0_fall_166 ?_
  refine va_mmax C.1 C.2.1 (C.2.2.1.trans hl.1.symm) C.2.2.2.1 (C.2.2.2.2.1 _ kw_952) (C.2.2.2.2.1 _ kw_953) (C.2.2.2.2.1 _ kw_135) (C.2.2.2.2.1 _ kw_954) (Nat.le_of_ble_eq_true rfl) (Nat.le_of_ble_eq_true rfl) (Nat.le_refl 0) (Nat.le_refl 0) dX0_fall_169 ?_
  refine m_puti C hW hx1 fpX0_157 dX0_fall_172 (fun H locs hW => ?_)
  exact kX0_fall_175  C x0 x1 x5 y0 _ _ _ _ hx0 hx1 hW (lv_sub hl [1, 2, 3, 0] rfl) hf

set_option maxRecDepth 100000 in
theorem kX0_fall_107 {p : Program} {l : Launch} {e : Env} {s : State} {m : MethodId} {av : Array Value} {below : List Frame} {meth : Method} {c : Code} {A : Nat → Prop} {G : Gv} {L : List Nat} {q : MS}  (C : mC p s m av meth c cX0_fall RX0 7 none) : ∀ (x0 : Nat) (x1 : Nat) (x5 : Int32) (S : MS) (H : Heap) (locs : List Loc) (ls : Array Slot), (x0 < shX.1 ∧ shX.2.1 x0 = 0) → (x1 < shX.1 ∧ shX.2.1 x1 = 9) → mW G shX L S A s H locs → lv_has ls 7 [(0, .ref (ad L x0)), (1, .ref (ad L x1)), (5, .int x5)] → fX0_fall_107  x0 x1 x5 S = some q → W p l e (rmd (4)) s m av below meth c H locs 0 0 (MQ below (mQ G shX L q none A) av s 0 0 A) (F0 m 107 ls []) := by
  intro x0 x1 x5 S H locs ls hx0 hx1 hW hl hf
  unfold fX0_fall_107 at hf
  refine lv_aload_n C.1 C.2.1 dX0_fall_107 rfl (lv_at hl 0 rfl) ?_
  refine lv_aload_n C.1 C.2.1 dX0_fall_108 rfl (lv_at hl 1 rfl) ?_
  refine lv_aload_n C.1 C.2.1 dX0_fall_109 rfl (lv_at hl 1 rfl) ?_
  refine m_geti C hW hx1 flX0_132 dX0_fall_110 ?_
  refine lv_iconst C.1 C.2.1 dX0_fall_113 ic_0 ?_
  refine lv_iconst C.1 C.2.1 dX0_fall_114 ic_0 ?_
  obtain ⟨q10, h11, hf⟩ := bd hf
  refine m_callV (As := [.ref (ad L x1), .int (gI S x1 15), .int (0 : Int32), .int (0 : Int32)]) (rest := []) C hW hx0 (cX0_tell_ok  hx0 hx1 h11) mlX0_110 (by decide) rfl hl.1 rfl (Nat.le_of_ble_eq_true rfl) (Nat.le_of_ble_eq_true rfl) (Nat.le_of_ble_eq_true rfl) dX0_fall_115 (fun H locs hW => ?_)
  refine lv_aload_n C.1 C.2.1 dX0_fall_118 rfl (lv_at hl 1 rfl) ?_
  refine m_geti C hW hx1 flX0_132 dX0_fall_119 ?_
  refine lv_if_ne (tgt := 129) C.1 C.2.1 dX0_fall_122 rfl (fun c12 => ?_) (fun c12 => ?_)
  · have hf := (if_neg c12).symm.trans hf
    refine lv_aload_n C.1 C.2.1 dX0_fall_129 rfl (lv_at hl 0 rfl) ?_
    refine lv_iconst C.1 C.2.1 dX0_fall_130 ic_0 ?_
    refine lv_bipush C.1 C.2.1 dX0_fall_131 bp_7 ?_
    refine lv_aload_n C.1 C.2.1 dX0_fall_133 rfl (lv_at hl 1 rfl) ?_
    refine m_geti C hW hx1 flX0_132 dX0_fall_134 ?_
    obtain ⟨q13, h14, hf⟩ := bd hf
    refine m_callV (As := [.int (0 : Int32), .int (7 : Int32), .int (gI q10 x1 15)]) (rest := []) C hW hx0 (cX0_within_ok  hx0 h14) mlX0_114 (by decide) rfl hl.1 rfl (Nat.le_of_ble_eq_true rfl) (Nat.le_of_ble_eq_true rfl) (Nat.le_of_ble_eq_true rfl) dX0_fall_137 (fun H locs hW => ?_)
    exact kX0_fall_140  C x0 x1 x5 q13.1 _ _ _ _ hx0 hx1 hW (lv_sub hl [0, 1, 2] rfl) hf
  · have hf := (if_pos c12).symm.trans hf
    refine lv_iconst C.1 C.2.1 dX0_fall_125 ic_0 ?_
    refine lv_goto (tgt := 140) C.1 C.2.1 dX0_fall_126 rfl ?_
    exact kX0_fall_140  C x0 x1 x5 (0 : Int32) _ _ _ _ hx0 hx1 hW (lv_sub hl [0, 1, 2] rfl) hf

set_option maxRecDepth 100000 in
theorem kX0_fall_104 {p : Program} {l : Launch} {e : Env} {s : State} {m : MethodId} {av : Array Value} {below : List Frame} {meth : Method} {c : Code} {A : Nat → Prop} {G : Gv} {L : List Nat} {q : MS}  (C : mC p s m av meth c cX0_fall RX0 7 none) : ∀ (x0 : Nat) (x1 : Nat) (x5 : Int32) (y0 : Nat) (y1 : Int32) (S : MS) (H : Heap) (locs : List Loc) (ls : Array Slot), (x0 < shX.1 ∧ shX.2.1 x0 = 0) → (x1 < shX.1 ∧ shX.2.1 x1 = 9) → (y0 < shX.1 ∧ shX.2.1 y0 = 9) → mW G shX L S A s H locs → lv_has ls 7 [(0, .ref (ad L x0)), (1, .ref (ad L x1)), (5, .int x5)] → fX0_fall_104  x0 x1 x5 y0 y1 S = some q → W p l e (rmd (4)) s m av below meth c H locs 0 0 (MQ below (mQ G shX L q none A) av s 0 0 A) (F0 m 104 ls [.int y1, .ref (ad L y0)]) := by
  intro x0 x1 x5 y0 y1 S H locs ls hx0 hx1 hy0 hW hl hf
  unfold fX0_fall_104 at hf
  refine m_puti C hW hy0 fpX0_132 dX0_fall_104 (fun H locs hW => ?_)
  exact kX0_fall_107  C x0 x1 x5 _ _ _ _ hx0 hx1 hW (lv_sub hl [0, 1, 2] rfl) hf

set_option maxRecDepth 100000 in
theorem kX0_fall_26 {p : Program} {l : Launch} {e : Env} {s : State} {m : MethodId} {av : Array Value} {below : List Frame} {meth : Method} {c : Code} {A : Nat → Prop} {G : Gv} {L : List Nat} {q : MS}  (C : mC p s m av meth c cX0_fall RX0 7 none) : ∀ (x0 : Nat) (x1 : Nat) (y0 : Int32) (S : MS) (H : Heap) (locs : List Loc) (ls : Array Slot), (x0 < shX.1 ∧ shX.2.1 x0 = 0) → (x1 < shX.1 ∧ shX.2.1 x1 = 9) → mW G shX L S A s H locs → lv_has ls 7 [(0, .ref (ad L x0)), (1, .ref (ad L x1))] → fX0_fall_26  x0 x1 y0 S = some q → W p l e (rmd (4)) s m av below meth c H locs 0 0 (MQ below (mQ G shX L q none A) av s 0 0 A) (F0 m 26 ls [.int y0]) := by
  intro x0 x1 y0 S H locs ls hx0 hx1 hW hl hf
  unfold fX0_fall_26 at hf
  refine lv_istore (lv' := [(4, .int y0), (0, .ref (ad L x0)), (1, .ref (ad L x1))]) C.1 C.2.1 dX0_fall_26 hl (by decide) rfl (fun ls hl => ?_)
  refine lv_aload_n C.1 C.2.1 dX0_fall_28 rfl (lv_at hl 2 rfl) ?_
  refine lv_aload_n C.1 C.2.1 dX0_fall_29 rfl (lv_at hl 1 rfl) ?_
  refine m_getr C hW hx0 flX0_15 (by decide) dX0_fall_30 (fun hk15 => ?_)
  refine m_getr C hW hk15 flX0_77 (by decide) dX0_fall_33 (fun hk16 => ?_)
  refine lv_iload C.1 C.2.1 dX0_fall_36 (lv_at hl 0 rfl) ?_
  refine lv_iconst C.1 C.2.1 dX0_fall_38 ic_2 ?_
  obtain ⟨q17, h18, hf⟩ := bd hf
  refine m_callV (As := [.int y0, .int (2 : Int32)]) (rest := [.ref (ad L x1)]) C hW hk16 (cX7_get_ok  hk16 h18) mlX0_39 (by decide) rfl hl.1 rfl (Nat.le_of_ble_eq_true rfl) (Nat.le_of_ble_eq_true rfl) (Nat.le_of_ble_eq_true rfl) dX0_fall_39 (fun H locs hW => ?_)
  refine m_puti C hW hx1 fpX0_132 dX0_fall_42 (fun H locs hW => ?_)
  refine lv_aload_n C.1 C.2.1 dX0_fall_45 rfl (lv_at hl 2 rfl) ?_
  refine m_geti C hW hx1 flX0_132 dX0_fall_46 ?_
  refine lv_if_le (tgt := 70) C.1 C.2.1 dX0_fall_49 rfl (fun c19 => ?_) (fun c19 => ?_)
  · have hf := (if_pos c19).symm.trans hf
    refine lv_aload_n C.1 C.2.1 dX0_fall_70 rfl (lv_at hl 1 rfl) ?_
    refine lv_aload_n C.1 C.2.1 dX0_fall_71 rfl (lv_at hl 2 rfl) ?_
    obtain ⟨q20, h21, hf⟩ := bd hf
    refine m_callV (As := [.ref (ad L x1)]) (rest := []) C hW hx0 (cX0_nearestLamp_ok  hx0 hx1 h21) mlX0_135 (by decide) rfl hl.1 rfl (Nat.le_of_ble_eq_true rfl) (Nat.le_of_ble_eq_true rfl) (Nat.le_of_ble_eq_true rfl) dX0_fall_72 (fun H locs hW => ?_)
    refine lv_istore (lv' := [(6, .int q20), (4, .int y0), (0, .ref (ad L x0)), (1, .ref (ad L x1))]) C.1 C.2.1 dX0_fall_75 hl (by decide) rfl (fun ls hl => ?_)
    refine lv_aload_n C.1 C.2.1 dX0_fall_77 rfl (lv_at hl 2 rfl) ?_
    refine lv_aload_n C.1 C.2.1 dX0_fall_78 rfl (lv_at hl 3 rfl) ?_
    refine lv_iload C.1 C.2.1 dX0_fall_79 (lv_at hl 0 rfl) ?_
    obtain ⟨q22, h23, hf⟩ := bd hf
    refine m_callV (As := [.ref (ad L x1), .int q20]) (rest := []) C hW hx0 (cX0_wayFrom_ok  hx0 hx1 h23) mlX0_139 (by decide) rfl hl.1 rfl (Nat.le_of_ble_eq_true rfl) (Nat.le_of_ble_eq_true rfl) (Nat.le_of_ble_eq_true rfl) dX0_fall_81 (fun H locs hW => ?_)
    refine lv_istore (lv' := [(5, .int q22), (6, .int q20), (4, .int y0), (0, .ref (ad L x0)), (1, .ref (ad L x1))]) C.1 C.2.1 dX0_fall_84 hl (by decide) rfl (fun ls hl => ?_)
    refine lv_aload_n C.1 C.2.1 dX0_fall_86 rfl (lv_at hl 4 rfl) ?_
    refine lv_iload C.1 C.2.1 dX0_fall_87 (lv_at hl 1 rfl) ?_
    refine lv_iconst C.1 C.2.1 dX0_fall_89 ic_m1 ?_
    refine lv_icmp_ne (tgt := 97) C.1 C.2.1 dX0_fall_90 rfl (fun c24 => ?_) (fun c24 => ?_)
    · have hf := (if_neg c24).symm.trans hf
      refine lv_aload_n C.1 C.2.1 dX0_fall_97 rfl (lv_at hl 3 rfl) ?_
      refine lv_aload_n C.1 C.2.1 dX0_fall_98 rfl (lv_at hl 4 rfl) ?_
      refine lv_iload C.1 C.2.1 dX0_fall_99 (lv_at hl 1 rfl) ?_
      obtain ⟨q25, h26, hf⟩ := bd hf
      refine m_callV (As := [.ref (ad L x1), .int q20]) (rest := [.ref (ad L x1)]) C hW hx0 (cX0_distance_ok  hx0 hx1 h26) mlX0_143 (by decide) rfl hl.1 rfl (Nat.le_of_ble_eq_true rfl) (Nat.le_of_ble_eq_true rfl) (Nat.le_of_ble_eq_true rfl) dX0_fall_101 (fun H locs hW => ?_)
      exact kX0_fall_104  C x0 x1 q22 x1 q25 _ _ _ _ hx0 hx1 hx1 hW (lv_sub hl [3, 4, 0] rfl) hf
    · have hf := (if_pos c24).symm.trans hf
      refine lv_iconst C.1 C.2.1 dX0_fall_93 ic_0 ?_
      refine lv_goto (tgt := 104) C.1 C.2.1 dX0_fall_94 rfl ?_
      exact kX0_fall_104  C x0 x1 q22 x1 (0 : Int32) _ _ _ _ hx0 hx1 hx1 hW (lv_sub hl [3, 4, 0] rfl) hf
  · have hf := (if_neg c19).symm.trans hf
    refine lv_aload_n C.1 C.2.1 dX0_fall_52 rfl (lv_at hl 1 rfl) ?_
    refine m_getr C hW hx0 flX0_15 (by decide) dX0_fall_53 (fun hk27 => ?_)
    refine m_getr C hW hk27 flX0_77 (by decide) dX0_fall_56 (fun hk28 => ?_)
    refine lv_iload C.1 C.2.1 dX0_fall_59 (lv_at hl 0 rfl) ?_
    refine lv_iconst C.1 C.2.1 dX0_fall_61 ic_1 ?_
    obtain ⟨q29, h30, hf⟩ := bd hf
    refine m_callV (As := [.int y0, .int (1 : Int32)]) (rest := []) C hW hk28 (cX7_get_ok  hk28 h30) mlX0_39 (by decide) rfl hl.1 rfl (Nat.le_of_ble_eq_true rfl) (Nat.le_of_ble_eq_true rfl) (Nat.le_of_ble_eq_true rfl) dX0_fall_62 (fun H locs hW => ?_)
    refine lv_istore (lv' := [(5, .int q29), (4, .int y0), (0, .ref (ad L x0)), (1, .ref (ad L x1))]) C.1 C.2.1 dX0_fall_65 hl (by decide) rfl (fun ls hl => ?_)
    refine lv_goto (tgt := 107) C.1 C.2.1 dX0_fall_67 rfl ?_
    exact kX0_fall_107  C x0 x1 q29 _ _ _ _ hx0 hx1 hW (lv_sub hl [2, 3, 0] rfl) hf

set_option maxRecDepth 100000 in
theorem kX0_fall_11 {p : Program} {l : Launch} {e : Env} {s : State} {m : MethodId} {av : Array Value} {below : List Frame} {meth : Method} {c : Code} {A : Nat → Prop} {G : Gv} {L : List Nat} {q : MS}  (C : mC p s m av meth c cX0_fall RX0 7 none) : ∀ (x0 : Nat) (x1 : Nat) (S : MS) (H : Heap) (locs : List Loc) (ls : Array Slot), (x0 < shX.1 ∧ shX.2.1 x0 = 0) → (x1 < shX.1 ∧ shX.2.1 x1 = 9) → mW G shX L S A s H locs → lv_has ls 7 [(0, .ref (ad L x0)), (1, .ref (ad L x1))] → fX0_fall_11  x0 x1 S = some q → W p l e (rmd (4)) s m av below meth c H locs 0 0 (MQ below (mQ G shX L q none A) av s 0 0 A) (F0 m 11 ls []) := by
  intro x0 x1 S H locs ls hx0 hx1 hW hl hf
  unfold fX0_fall_11 at hf
  refine lv_iconst C.1 C.2.1 dX0_fall_11 ic_m1 ?_
  refine lv_goto (tgt := 26) C.1 C.2.1 dX0_fall_12 rfl ?_
  exact kX0_fall_26  C x0 x1 (-1 : Int32) _ _ _ _ hx0 hx1 hW (lv_sub hl [0, 1] rfl) hf

set_option maxRecDepth 100000 in
theorem cX0_fall_ok {l : Launch} {G : Gv} {L : List Nat} {S : MS} {a0 : Nat} {a1 : Nat} {a2 : Int32} {a3 : Int32} {q : MS} (ha0 : a0 < shX.1 ∧ shX.2.1 a0 = 0) (ha1 : a1 < shX.1 ∧ shX.2.1 a1 = 9) (hf : fX0_fall a0 a1 a2 a3 S = some q) : Mt l yX0_fall cX0_fall 7 none (4) G shX L S [.ref (ad L a0), .ref (ad L a1), .int a2, .int a3] none q := by
  refine m_enter (lv := [(0, .ref (ad L a0)), (1, .ref (ad L a1)), (2, .int a2), (3, .int a3)]) (plainFor_of_name (by decide)) (Nat.le_of_ble_eq_true rfl) rfl ?_
  intro p e s m below meth c A ls C hW hl
  unfold fX0_fall at hf
  refine lv_iload_n C.1 C.2.1 dX0_fall_0 rfl (lv_at hl 2 rfl) ?_
  refine lv_if_ne (tgt := 11) C.1 C.2.1 dX0_fall_1 rfl (fun c31 => ?_) (fun c31 => ?_)
  · have hf := (if_neg c31).symm.trans hf
    exact kX0_fall_11  C a0 a1 _ _ _ _ ha0 ha1 hW (lv_sub hl [0, 1] rfl) hf
  · have hf := (if_pos c31).symm.trans hf
    refine lv_iload_n C.1 C.2.1 dX0_fall_4 rfl (lv_at hl 3 rfl) ?_
    refine lv_bipush C.1 C.2.1 dX0_fall_5 bp_16 ?_
    refine lv_iand C.1 C.2.1 dX0_fall_7 ?_
    refine lv_if_eq (tgt := 15) C.1 C.2.1 dX0_fall_8 rfl (fun c32 => ?_) (fun c32 => ?_)
    · have hf := (if_pos c32).symm.trans hf
      refine lv_aload_n C.1 C.2.1 dX0_fall_15 rfl (lv_at hl 0 rfl) ?_
      refine m_getr C hW ha0 flX0_15 (by decide) dX0_fall_16 (fun hk33 => ?_)
      refine lv_aload_n C.1 C.2.1 dX0_fall_19 rfl (lv_at hl 1 rfl) ?_
      refine m_geti C hW ha1 flX0_43 dX0_fall_20 ?_
      obtain ⟨q34, h35, hf⟩ := bd hf
      refine m_callV (As := [.int (gI S a1 3)]) (rest := []) C hW hk33 (cX8_sunOf_ok  hk33 h35) mlX0_129 (by decide) rfl hl.1 rfl (Nat.le_of_ble_eq_true rfl) (Nat.le_of_ble_eq_true rfl) (Nat.le_of_ble_eq_true rfl) dX0_fall_23 (fun H locs hW => ?_)
      exact kX0_fall_26  C a0 a1 q34 _ _ _ _ ha0 ha1 hW (lv_sub hl [0, 1] rfl) hf
    · have hf := (if_neg c32).symm.trans hf
      exact kX0_fall_11  C a0 a1 _ _ _ _ ha0 ha1 hW (lv_sub hl [0, 1] rfl) hf

def fX0_meetMen_132 (K2 : Nat → Nat → Int32 → MS → Option MS) (x0 : Nat) (x1 : Nat) (x2 : Int32) (S : MS) : Option MS := K2 x0 x1 (x2 + (1 : Int32)) S
def fX0_meetMen_2  : Nat → Nat → Nat → Int32 → MS → Option MS
  | 0, _, _, _, _ => none
  | n + 1, x0, x1, x2, S => (fX7_size  (gR S (gR S x0 1) 6) S).bind fun q3 => (if q3 ≤ x2 then some S else (if (4 : Int32) ≤ x2 then some S else (fX7_get  (gR S (gR S x0 1) 6) x2 (1 : Int32) S).bind fun q9 => (fX7_get  (gR S (gR S x0 1) 6) x2 (2 : Int32) S).bind fun q13 => (fX9_isSheAt  x1 q9 q13 S).bind fun q15 => (if q15 = (0 : Int32) then (fX9_isItApartAt  x1 q9 q13 S).bind fun q18 => (if q18 = (0 : Int32) then fX0_meetMen_132 (fX0_meetMen_2  n) x0 x1 x2 S else (if bnd x2 (lnX (gR S x1 1)) = true then (fX9_onceMore  (gI S (gR S x1 1) x2.toNatClampNeg) S).bind fun q24 => (if bnd x2 (lnX (gR S x1 1)) = true then (if bnd x2 (lnX (gR (pI S (gR S x1 1) x2.toNatClampNeg q24) x1 0)) = true then (if bnd x2 (lnX (gR (pI S (gR S x1 1) x2.toNatClampNeg q24) x1 1)) = true then (fX0_tell  x0 x1 (0 : Int32) (gI (pI S (gR S x1 1) x2.toNatClampNeg q24) (gR (pI S (gR S x1 1) x2.toNatClampNeg q24) x1 0) x2.toNatClampNeg) (gI (pI S (gR S x1 1) x2.toNatClampNeg q24) (gR (pI S (gR S x1 1) x2.toNatClampNeg q24) x1 1) x2.toNatClampNeg) (pI S (gR S x1 1) x2.toNatClampNeg q24)).bind fun q31 => (fX0_within  x0 (1 : Int32) (99 : Int32) (1 : Int32) q31).bind fun q33 => (fX9_please  x1 x2 q33.1 q33.2).bind fun q35 => fX0_meetMen_132 (fX0_meetMen_2  n) x0 x1 x2 q35 else none) else none) else none) else none)) else (if bnd x2 (lnX (gR S x1 0)) = true then (fX9_onceMore  (gI S (gR S x1 0) x2.toNatClampNeg) S).bind fun q40 => (if bnd x2 (lnX (gR S x1 0)) = true then fX0_meetMen_132 (fX0_meetMen_2  n) x0 x1 x2 (pI S (gR S x1 0) x2.toNatClampNeg q40) else none) else none))))
def fX0_meetMen (a0 : Nat) (a1 : Nat) (S : MS) : Option MS := fX0_meetMen_2  1000 a0 a1 (0 : Int32) S
set_option maxRecDepth 100000 in
theorem kX0_meetMen_132 {p : Program} {l : Launch} {e : Env} {s : State} {m : MethodId} {av : Array Value} {below : List Frame} {meth : Method} {c : Code} {A : Nat → Prop} {G : Gv} {L : List Nat} {q : MS} {K2 : Nat → Nat → Int32 → MS → Option MS} (hK2 : ∀ (x0 : Nat) (x1 : Nat) (x2 : Int32) (S : MS) (H : Heap) (locs : List Loc) (ls : Array Slot), (x0 < shX.1 ∧ shX.2.1 x0 = 0) → (x1 < shX.1 ∧ shX.2.1 x1 = 9) → mW G shX L S A s H locs → lv_has ls 5 [(0, .ref (ad L x0)), (1, .ref (ad L x1)), (2, .int x2)] → K2 x0 x1 x2 S = some q → W p l e (rmd (4)) s m av below meth c H locs 0 0 (MQ below (mQ G shX L q none A) av s 0 0 A) (F0 m 2 ls [])) (C : mC p s m av meth c cX0_meetMen RX0 5 none) : ∀ (x0 : Nat) (x1 : Nat) (x2 : Int32) (S : MS) (H : Heap) (locs : List Loc) (ls : Array Slot), (x0 < shX.1 ∧ shX.2.1 x0 = 0) → (x1 < shX.1 ∧ shX.2.1 x1 = 9) → mW G shX L S A s H locs → lv_has ls 5 [(0, .ref (ad L x0)), (1, .ref (ad L x1)), (2, .int x2)] → fX0_meetMen_132 K2 x0 x1 x2 S = some q → W p l e (rmd (4)) s m av below meth c H locs 0 0 (MQ below (mQ G shX L q none A) av s 0 0 A) (F0 m 132 ls []) := by
  intro x0 x1 x2 S H locs ls hx0 hx1 hW hl hf
  unfold fX0_meetMen_132 at hf
  refine lv_iinc (v := x2 + (1 : Int32)) (lv' := [(2, .int (x2 + (1 : Int32))), (0, .ref (ad L x0)), (1, .ref (ad L x1))]) C.1 C.2.1 dX0_meetMen_132 hl (k := 2) rfl (congrArg (fun z => x2 + z) ic_1) (by decide) rfl (fun ls hl => ?_)
  refine lv_goto (tgt := 2) C.1 C.2.1 dX0_meetMen_135 rfl ?_
  exact hK2 x0 x1 (x2 + (1 : Int32)) _ _ _ _ hx0 hx1 hW (lv_sub hl [1, 2, 0] rfl) hf

set_option maxRecDepth 100000 in
theorem kX0_meetMen_2 {p : Program} {l : Launch} {e : Env} {s : State} {m : MethodId} {av : Array Value} {below : List Frame} {meth : Method} {c : Code} {A : Nat → Prop} {G : Gv} {L : List Nat} {q : MS}  (C : mC p s m av meth c cX0_meetMen RX0 5 none) : ∀ (n : Nat) (x0 : Nat) (x1 : Nat) (x2 : Int32) (S : MS) (H : Heap) (locs : List Loc) (ls : Array Slot), (x0 < shX.1 ∧ shX.2.1 x0 = 0) → (x1 < shX.1 ∧ shX.2.1 x1 = 9) → mW G shX L S A s H locs → lv_has ls 5 [(0, .ref (ad L x0)), (1, .ref (ad L x1)), (2, .int x2)] → fX0_meetMen_2  n x0 x1 x2 S = some q → W p l e (rmd (4)) s m av below meth c H locs 0 0 (MQ below (mQ G shX L q none A) av s 0 0 A) (F0 m 2 ls []) := by
  intro n
  induction n with
  | zero =>
    intro x0 x1 x2 S H locs ls hx0 hx1 hW hl hf
    rw [fX0_meetMen_2] at hf
    cases hf
  | succ n ih =>
    intro x0 x1 x2 S H locs ls hx0 hx1 hW hl hf
    rw [fX0_meetMen_2] at hf
    refine lv_iload_n C.1 C.2.1 dX0_meetMen_2 rfl (lv_at hl 2 rfl) ?_
    refine lv_aload_n C.1 C.2.1 dX0_meetMen_3 rfl (lv_at hl 0 rfl) ?_
    refine m_getr C hW hx0 flX0_15 (by decide) dX0_meetMen_4 (fun hk1 => ?_)
    refine m_getr C hW hk1 flX0_187 (by decide) dX0_meetMen_7 (fun hk2 => ?_)
    obtain ⟨q3, h4, hf⟩ := bd hf
    refine m_callV (As := []) (rest := [.int x2]) C hW hk2 (cX7_size_ok  hk2 h4) mlX0_33 (by decide) rfl hl.1 rfl (Nat.le_of_ble_eq_true rfl) (Nat.le_of_ble_eq_true rfl) (Nat.le_of_ble_eq_true rfl) dX0_meetMen_10 (fun H locs hW => ?_)
    refine lv_icmp_ge (tgt := 138) C.1 C.2.1 dX0_meetMen_13 rfl (fun c5 => ?_) (fun c5 => ?_)
    · have hf := (if_pos c5).symm.trans hf
      cases hf
      exact m_vret C hW dX0_meetMen_138
    · have hf := (if_neg c5).symm.trans hf
      refine lv_iload_n C.1 C.2.1 dX0_meetMen_16 rfl (lv_at hl 2 rfl) ?_
      refine lv_iconst C.1 C.2.1 dX0_meetMen_17 ic_4 ?_
      refine lv_icmp_ge (tgt := 138) C.1 C.2.1 dX0_meetMen_18 rfl (fun c6 => ?_) (fun c6 => ?_)
      · have hf := (if_pos c6).symm.trans hf
        cases hf
        exact m_vret C hW dX0_meetMen_138
      · have hf := (if_neg c6).symm.trans hf
        refine lv_aload_n C.1 C.2.1 dX0_meetMen_21 rfl (lv_at hl 0 rfl) ?_
        refine m_getr C hW hx0 flX0_15 (by decide) dX0_meetMen_22 (fun hk7 => ?_)
        refine m_getr C hW hk7 flX0_187 (by decide) dX0_meetMen_25 (fun hk8 => ?_)
        refine lv_iload_n C.1 C.2.1 dX0_meetMen_28 rfl (lv_at hl 2 rfl) ?_
        refine lv_iconst C.1 C.2.1 dX0_meetMen_29 ic_1 ?_
        obtain ⟨q9, h10, hf⟩ := bd hf
        refine m_callV (As := [.int x2, .int (1 : Int32)]) (rest := []) C hW hk8 (cX7_get_ok  hk8 h10) mlX0_39 (by decide) rfl hl.1 rfl (Nat.le_of_ble_eq_true rfl) (Nat.le_of_ble_eq_true rfl) (Nat.le_of_ble_eq_true rfl) dX0_meetMen_30 (fun H locs hW => ?_)
        refine lv_istore_n (lv' := [(3, .int q9), (0, .ref (ad L x0)), (1, .ref (ad L x1)), (2, .int x2)]) C.1 C.2.1 dX0_meetMen_33 rfl hl (by decide) rfl (fun ls hl => ?_)
        refine lv_aload_n C.1 C.2.1 dX0_meetMen_34 rfl (lv_at hl 1 rfl) ?_
        refine m_getr C hW hx0 flX0_15 (by decide) dX0_meetMen_35 (fun hk11 => ?_)
        refine m_getr C hW hk11 flX0_187 (by decide) dX0_meetMen_38 (fun hk12 => ?_)
        refine lv_iload_n C.1 C.2.1 dX0_meetMen_41 rfl (lv_at hl 3 rfl) ?_
        refine lv_iconst C.1 C.2.1 dX0_meetMen_42 ic_2 ?_
        obtain ⟨q13, h14, hf⟩ := bd hf
        refine m_callV (As := [.int x2, .int (2 : Int32)]) (rest := []) C hW hk12 (cX7_get_ok  hk12 h14) mlX0_39 (by decide) rfl hl.1 rfl (Nat.le_of_ble_eq_true rfl) (Nat.le_of_ble_eq_true rfl) (Nat.le_of_ble_eq_true rfl) dX0_meetMen_43 (fun H locs hW => ?_)
        refine lv_istore (lv' := [(4, .int q13), (3, .int q9), (0, .ref (ad L x0)), (1, .ref (ad L x1)), (2, .int x2)]) C.1 C.2.1 dX0_meetMen_46 hl (by decide) rfl (fun ls hl => ?_)
        refine lv_aload_n C.1 C.2.1 dX0_meetMen_48 rfl (lv_at hl 3 rfl) ?_
        refine lv_iload_n C.1 C.2.1 dX0_meetMen_49 rfl (lv_at hl 1 rfl) ?_
        refine lv_iload C.1 C.2.1 dX0_meetMen_50 (lv_at hl 0 rfl) ?_
        obtain ⟨q15, h16, hf⟩ := bd hf
        refine m_callV (As := [.int q9, .int q13]) (rest := []) C hW hx1 (cX9_isSheAt_ok  hx1 h16) mlX0_166 (by decide) rfl hl.1 rfl (Nat.le_of_ble_eq_true rfl) (Nat.le_of_ble_eq_true rfl) (Nat.le_of_ble_eq_true rfl) dX0_meetMen_52 (fun H locs hW => ?_)
        refine lv_if_eq (tgt := 76) C.1 C.2.1 dX0_meetMen_55 rfl (fun c17 => ?_) (fun c17 => ?_)
        · have hf := (if_pos c17).symm.trans hf
          refine lv_aload_n C.1 C.2.1 dX0_meetMen_76 rfl (lv_at hl 3 rfl) ?_
          refine lv_iload_n C.1 C.2.1 dX0_meetMen_77 rfl (lv_at hl 1 rfl) ?_
          refine lv_iload C.1 C.2.1 dX0_meetMen_78 (lv_at hl 0 rfl) ?_
          obtain ⟨q18, h19, hf⟩ := bd hf
          refine m_callV (As := [.int q9, .int q13]) (rest := []) C hW hx1 (cX9_isItApartAt_ok  hx1 h19) mlX0_181 (by decide) rfl hl.1 rfl (Nat.le_of_ble_eq_true rfl) (Nat.le_of_ble_eq_true rfl) (Nat.le_of_ble_eq_true rfl) dX0_meetMen_80 (fun H locs hW => ?_)
          refine lv_if_eq (tgt := 132) C.1 C.2.1 dX0_meetMen_83 rfl (fun c20 => ?_) (fun c20 => ?_)
          · have hf := (if_pos c20).symm.trans hf
            exact kX0_meetMen_132 ih C x0 x1 x2 _ _ _ _ hx0 hx1 hW (lv_sub hl [2, 3, 4] rfl) hf
          · have hf := (if_neg c20).symm.trans hf
            refine lv_aload_n C.1 C.2.1 dX0_meetMen_86 rfl (lv_at hl 3 rfl) ?_
            refine m_getr C hW hx1 flX0_196 (by decide) dX0_meetMen_87 (fun hk21 => ?_)
            refine lv_iload_n C.1 C.2.1 dX0_meetMen_90 rfl (lv_at hl 4 rfl) ?_
            refine lv_aload_n C.1 C.2.1 dX0_meetMen_91 rfl (lv_at hl 3 rfl) ?_
            refine m_getr C hW hx1 flX0_196 (by decide) dX0_meetMen_92 (fun hk22 => ?_)
            refine lv_iload_n C.1 C.2.1 dX0_meetMen_95 rfl (lv_at hl 4 rfl) ?_
            obtain ⟨hb23, hf⟩ := gd hf
            refine m_iald C hW hk22 hb23 dX0_meetMen_96 ?_
            obtain ⟨q24, h25, hf⟩ := bd hf
            refine m_callS (As := [.int (gI S (gR S x1 1) x2.toNatClampNeg)]) (rest := [.int x2, .ref (ad L (gR S x1 1))]) C hW (cX9_onceMore_ok   h25) mlX0_193 rfl hl.1 rfl (Nat.le_of_ble_eq_true rfl) (Nat.le_of_ble_eq_true rfl) (Nat.le_of_ble_eq_true rfl) dX0_meetMen_97 (fun H locs hW => ?_)
            obtain ⟨hb26, hf⟩ := gd hf
            refine m_iast C hW hk21 hb26 dX0_meetMen_100 (fun H locs hW => ?_)
            refine lv_aload_n C.1 C.2.1 dX0_meetMen_101 rfl (lv_at hl 2 rfl) ?_
            refine lv_aload_n C.1 C.2.1 dX0_meetMen_102 rfl (lv_at hl 3 rfl) ?_
            refine lv_iconst C.1 C.2.1 dX0_meetMen_103 ic_0 ?_
            refine lv_aload_n C.1 C.2.1 dX0_meetMen_104 rfl (lv_at hl 3 rfl) ?_
            refine m_getr C hW hx1 flX0_190 (by decide) dX0_meetMen_105 (fun hk27 => ?_)
            refine lv_iload_n C.1 C.2.1 dX0_meetMen_108 rfl (lv_at hl 4 rfl) ?_
            obtain ⟨hb28, hf⟩ := gd hf
            refine m_iald C hW hk27 hb28 dX0_meetMen_109 ?_
            refine lv_aload_n C.1 C.2.1 dX0_meetMen_110 rfl (lv_at hl 3 rfl) ?_
            refine m_getr C hW hx1 flX0_196 (by decide) dX0_meetMen_111 (fun hk29 => ?_)
            refine lv_iload_n C.1 C.2.1 dX0_meetMen_114 rfl (lv_at hl 4 rfl) ?_
            obtain ⟨hb30, hf⟩ := gd hf
            refine m_iald C hW hk29 hb30 dX0_meetMen_115 ?_
            obtain ⟨q31, h32, hf⟩ := bd hf
            refine m_callV (As := [.ref (ad L x1), .int (0 : Int32), .int (gI (pI S (gR S x1 1) x2.toNatClampNeg q24) (gR (pI S (gR S x1 1) x2.toNatClampNeg q24) x1 0) x2.toNatClampNeg), .int (gI (pI S (gR S x1 1) x2.toNatClampNeg q24) (gR (pI S (gR S x1 1) x2.toNatClampNeg q24) x1 1) x2.toNatClampNeg)]) (rest := []) C hW hx0 (cX0_tell_ok  hx0 hx1 h32) mlX0_110 (by decide) rfl hl.1 rfl (Nat.le_of_ble_eq_true rfl) (Nat.le_of_ble_eq_true rfl) (Nat.le_of_ble_eq_true rfl) dX0_meetMen_116 (fun H locs hW => ?_)
            refine lv_aload_n C.1 C.2.1 dX0_meetMen_119 rfl (lv_at hl 3 rfl) ?_
            refine lv_iload_n C.1 C.2.1 dX0_meetMen_120 rfl (lv_at hl 4 rfl) ?_
            refine lv_aload_n C.1 C.2.1 dX0_meetMen_121 rfl (lv_at hl 2 rfl) ?_
            refine lv_iconst C.1 C.2.1 dX0_meetMen_122 ic_1 ?_
            refine lv_bipush C.1 C.2.1 dX0_meetMen_123 bp_99 ?_
            refine lv_iconst C.1 C.2.1 dX0_meetMen_125 ic_1 ?_
            obtain ⟨q33, h34, hf⟩ := bd hf
            refine m_callV (As := [.int (1 : Int32), .int (99 : Int32), .int (1 : Int32)]) (rest := [.int x2, .ref (ad L x1)]) C hW hx0 (cX0_within_ok  hx0 h34) mlX0_114 (by decide) rfl hl.1 rfl (Nat.le_of_ble_eq_true rfl) (Nat.le_of_ble_eq_true rfl) (Nat.le_of_ble_eq_true rfl) dX0_meetMen_126 (fun H locs hW => ?_)
            obtain ⟨q35, h36, hf⟩ := bd hf
            refine m_callV (As := [.int x2, .int q33.1]) (rest := []) C hW hx1 (cX9_please_ok  hx1 h36) mlX0_199 (by decide) rfl hl.1 rfl (Nat.le_of_ble_eq_true rfl) (Nat.le_of_ble_eq_true rfl) (Nat.le_of_ble_eq_true rfl) dX0_meetMen_129 (fun H locs hW => ?_)
            exact kX0_meetMen_132 ih C x0 x1 x2 _ _ _ _ hx0 hx1 hW (lv_sub hl [2, 3, 4] rfl) hf
        · have hf := (if_neg c17).symm.trans hf
          refine lv_aload_n C.1 C.2.1 dX0_meetMen_58 rfl (lv_at hl 3 rfl) ?_
          refine m_getr C hW hx1 flX0_190 (by decide) dX0_meetMen_59 (fun hk37 => ?_)
          refine lv_iload_n C.1 C.2.1 dX0_meetMen_62 rfl (lv_at hl 4 rfl) ?_
          refine lv_aload_n C.1 C.2.1 dX0_meetMen_63 rfl (lv_at hl 3 rfl) ?_
          refine m_getr C hW hx1 flX0_190 (by decide) dX0_meetMen_64 (fun hk38 => ?_)
          refine lv_iload_n C.1 C.2.1 dX0_meetMen_67 rfl (lv_at hl 4 rfl) ?_
          obtain ⟨hb39, hf⟩ := gd hf
          refine m_iald C hW hk38 hb39 dX0_meetMen_68 ?_
          obtain ⟨q40, h41, hf⟩ := bd hf
          refine m_callS (As := [.int (gI S (gR S x1 0) x2.toNatClampNeg)]) (rest := [.int x2, .ref (ad L (gR S x1 0))]) C hW (cX9_onceMore_ok   h41) mlX0_193 rfl hl.1 rfl (Nat.le_of_ble_eq_true rfl) (Nat.le_of_ble_eq_true rfl) (Nat.le_of_ble_eq_true rfl) dX0_meetMen_69 (fun H locs hW => ?_)
          obtain ⟨hb42, hf⟩ := gd hf
          refine m_iast C hW hk37 hb42 dX0_meetMen_72 (fun H locs hW => ?_)
          refine lv_goto (tgt := 132) C.1 C.2.1 dX0_meetMen_73 rfl ?_
          exact kX0_meetMen_132 ih C x0 x1 x2 _ _ _ _ hx0 hx1 hW (lv_sub hl [2, 3, 4] rfl) hf

set_option maxRecDepth 100000 in
theorem cX0_meetMen_ok {l : Launch} {G : Gv} {L : List Nat} {S : MS} {a0 : Nat} {a1 : Nat} {q : MS} (ha0 : a0 < shX.1 ∧ shX.2.1 a0 = 0) (ha1 : a1 < shX.1 ∧ shX.2.1 a1 = 9) (hf : fX0_meetMen a0 a1 S = some q) : Mt l yX0_meetMen cX0_meetMen 5 none (4) G shX L S [.ref (ad L a0), .ref (ad L a1)] none q := by
  refine m_enter (lv := [(0, .ref (ad L a0)), (1, .ref (ad L a1))]) (plainFor_of_name (by decide)) (Nat.le_of_ble_eq_true rfl) rfl ?_
  intro p e s m below meth c A ls C hW hl
  unfold fX0_meetMen at hf
  refine lv_iconst C.1 C.2.1 dX0_meetMen_0 ic_0 ?_
  refine lv_istore_n (lv' := [(2, .int (0 : Int32)), (0, .ref (ad L a0)), (1, .ref (ad L a1))]) C.1 C.2.1 dX0_meetMen_1 rfl hl (by decide) rfl (fun ls hl => ?_)
  exact kX0_meetMen_2  C 1000 a0 a1 (0 : Int32) _ _ _ _ ha0 ha1 hW (lv_sub hl [1, 2, 0] rfl) hf

