def fX10_lampsFor_95 (K48 : Nat → Int32 → Int32 → Int32 → Int32 → Int32 → Int32 → MS → Option (Int32 × MS)) (x0 : Nat) (x1 : Int32) (x2 : Int32) (x3 : Int32) (x4 : Int32) (x5 : Int32) (x6 : Int32) (S : MS) : Option (Int32 × MS) := K48 x0 x1 x2 x3 x4 x5 (x6 + (1 : Int32)) S
def fX10_lampsFor_48  : Nat → Nat → Int32 → Int32 → Int32 → Int32 → Int32 → Int32 → MS → Option (Int32 × MS)
  | 0, _, _, _, _, _, _, _, _ => none
  | n + 1, x0, x1, x2, x3, x4, x5, x6, S => (if x5 ≤ x6 then some (x3, S) else (fJ6_bitCount_0f7a4  x6 (pI S (gR S x0 11) 7 x6)).bind fun q3 => (if x4 ≤ q3 then fX10_lampsFor_95 (fX10_lampsFor_48  n) x0 x1 x2 x3 x4 x5 x6 (pI S (gR S x0 11) 7 x6) else (fX10_fallsOn  x0 x1 x2 (16 : Int32) (pI S (gR S x0 11) 7 x6)).bind fun q6 => (if q6.1 = (0 : Int32) then fX10_lampsFor_95 (fX10_lampsFor_48  n) x0 x1 x2 x3 x4 x5 x6 q6.2 else (fJ6_bitCount_0f7a4  x6 q6.2).bind fun q9 => fX10_lampsFor_95 (fX10_lampsFor_48  n) x0 x1 x2 x6 q9 x5 x6 q6.2)))
def fX10_lampsFor (a0 : Nat) (a1 : Int32) (a2 : Int32) (S : MS) : Option (Int32 × MS) := (fX8_isCell  (gR S a0 1) a1 a2 S).bind fun q12 => (if q12 = (0 : Int32) then some ((-1 : Int32), S) else (fX9_become  (gR S a0 11) (gR S a0 9) S).bind fun q17 => (fX7_size  (gR q17 (gR q17 a0 1) 3) q17).bind fun q21 => fX10_lampsFor_48  1000 a0 a1 a2 (-2 : Int32) (5 : Int32) ((1 : Int32) <<< (q21 &&& 31)) (0 : Int32) q17)
set_option maxRecDepth 100000 in
theorem kX10_lampsFor_95 {p : Program} {l : Launch} {e : Env} {s : State} {m : MethodId} {av : Array Value} {below : List Frame} {meth : Method} {c : Code} {A : Nat → Prop} {G : Gv} {L : List Nat} {q : (Int32 × MS)} {K48 : Nat → Int32 → Int32 → Int32 → Int32 → Int32 → Int32 → MS → Option (Int32 × MS)} (hK48 : ∀ (x0 : Nat) (x1 : Int32) (x2 : Int32) (x3 : Int32) (x4 : Int32) (x5 : Int32) (x6 : Int32) (S : MS) (H : Heap) (locs : List Loc) (ls : Array Slot), (x0 < shX.1 ∧ shX.2.1 x0 = 10) → mW G shX L S A s H locs → lv_has ls 7 [(0, .ref (ad L x0)), (1, .int x1), (2, .int x2), (3, .int x3), (4, .int x4), (5, .int x5), (6, .int x6)] → K48 x0 x1 x2 x3 x4 x5 x6 S = some q → W p l e (rmd (6)) s m av below meth c H locs 0 0 (MQ below (mQ G shX L q.2 (some (.int q.1)) A) av s 0 0 A) (F0 m 48 ls [])) (C : mC p s m av meth c cX10_lampsFor RX10 7 (some .int)) : ∀ (x0 : Nat) (x1 : Int32) (x2 : Int32) (x3 : Int32) (x4 : Int32) (x5 : Int32) (x6 : Int32) (S : MS) (H : Heap) (locs : List Loc) (ls : Array Slot), (x0 < shX.1 ∧ shX.2.1 x0 = 10) → mW G shX L S A s H locs → lv_has ls 7 [(0, .ref (ad L x0)), (1, .int x1), (2, .int x2), (3, .int x3), (4, .int x4), (5, .int x5), (6, .int x6)] → fX10_lampsFor_95 K48 x0 x1 x2 x3 x4 x5 x6 S = some q → W p l e (rmd (6)) s m av below meth c H locs 0 0 (MQ below (mQ G shX L q.2 (some (.int q.1)) A) av s 0 0 A) (F0 m 95 ls []) := by
  intro x0 x1 x2 x3 x4 x5 x6 S H locs ls hx0 hW hl hf
  unfold fX10_lampsFor_95 at hf
  refine lv_iinc (v := x6 + (1 : Int32)) (lv' := [(6, .int (x6 + (1 : Int32))), (0, .ref (ad L x0)), (1, .int x1), (2, .int x2), (3, .int x3), (4, .int x4), (5, .int x5)]) C.1 C.2.1 dX10_lampsFor_95 hl (k := 6) rfl (congrArg (fun z => x6 + z) ic_1) (by decide) rfl (fun ls hl => ?_)
  refine lv_goto (tgt := 48) C.1 C.2.1 dX10_lampsFor_98 rfl ?_
  exact hK48 x0 x1 x2 x3 x4 x5 (x6 + (1 : Int32)) _ _ _ _ hx0 hW (lv_sub hl [1, 2, 3, 4, 5, 6, 0] rfl) hf

set_option maxRecDepth 100000 in
theorem kX10_lampsFor_48 {p : Program} {l : Launch} {e : Env} {s : State} {m : MethodId} {av : Array Value} {below : List Frame} {meth : Method} {c : Code} {A : Nat → Prop} {G : Gv} {L : List Nat} {q : (Int32 × MS)}  (C : mC p s m av meth c cX10_lampsFor RX10 7 (some .int)) : ∀ (n : Nat) (x0 : Nat) (x1 : Int32) (x2 : Int32) (x3 : Int32) (x4 : Int32) (x5 : Int32) (x6 : Int32) (S : MS) (H : Heap) (locs : List Loc) (ls : Array Slot), (x0 < shX.1 ∧ shX.2.1 x0 = 10) → mW G shX L S A s H locs → lv_has ls 7 [(0, .ref (ad L x0)), (1, .int x1), (2, .int x2), (3, .int x3), (4, .int x4), (5, .int x5), (6, .int x6)] → fX10_lampsFor_48  n x0 x1 x2 x3 x4 x5 x6 S = some q → W p l e (rmd (6)) s m av below meth c H locs 0 0 (MQ below (mQ G shX L q.2 (some (.int q.1)) A) av s 0 0 A) (F0 m 48 ls []) := by
  intro n
  induction n with
  | zero =>
    intro x0 x1 x2 x3 x4 x5 x6 S H locs ls hx0 hW hl hf
    rw [fX10_lampsFor_48] at hf
    cases hf
  | succ n ih =>
    intro x0 x1 x2 x3 x4 x5 x6 S H locs ls hx0 hW hl hf
    rw [fX10_lampsFor_48] at hf
    refine lv_iload C.1 C.2.1 dX10_lampsFor_48 (lv_at hl 6 rfl) ?_
    refine lv_iload C.1 C.2.1 dX10_lampsFor_50 (lv_at hl 5 rfl) ?_
    refine lv_icmp_ge (tgt := 101) C.1 C.2.1 dX10_lampsFor_52 rfl (fun c1 => ?_) (fun c1 => ?_)
    · have hf := (if_pos c1).symm.trans hf
      refine lv_iload_n C.1 C.2.1 dX10_lampsFor_101 rfl (lv_at hl 3 rfl) ?_
      cases hf
      exact m_iret C hW dX10_lampsFor_102
    · have hf := (if_neg c1).symm.trans hf
      refine lv_aload_n C.1 C.2.1 dX10_lampsFor_55 rfl (lv_at hl 0 rfl) ?_
      refine m_getr C hW hx0 flX10_79 (by decide) dX10_lampsFor_56 (fun hk2 => ?_)
      refine lv_iload C.1 C.2.1 dX10_lampsFor_59 (lv_at hl 6 rfl) ?_
      refine m_puti C hW hk2 fpX10_218 dX10_lampsFor_61 (fun H locs hW => ?_)
      refine lv_iload C.1 C.2.1 dX10_lampsFor_64 (lv_at hl 6 rfl) ?_
      obtain ⟨q3, h4, hf⟩ := bd hf
      refine m_callS (As := [.int x6]) (rest := []) C hW (cJ6_bitCount_0f7a4_ok   h4) mlX10_267 rfl hl.1 rfl (Nat.le_of_ble_eq_true rfl) (Nat.le_of_ble_eq_true rfl) (Nat.le_of_ble_eq_true rfl) dX10_lampsFor_66 (fun H locs hW => ?_)
      refine lv_iload C.1 C.2.1 dX10_lampsFor_69 (lv_at hl 4 rfl) ?_
      refine lv_icmp_ge (tgt := 95) C.1 C.2.1 dX10_lampsFor_71 rfl (fun c5 => ?_) (fun c5 => ?_)
      · have hf := (if_pos c5).symm.trans hf
        exact kX10_lampsFor_95 ih C x0 x1 x2 x3 x4 x5 x6 _ _ _ _ hx0 hW (lv_sub hl [0, 1, 2, 3, 4, 5, 6] rfl) hf
      · have hf := (if_neg c5).symm.trans hf
        refine lv_aload_n C.1 C.2.1 dX10_lampsFor_74 rfl (lv_at hl 0 rfl) ?_
        refine lv_iload_n C.1 C.2.1 dX10_lampsFor_75 rfl (lv_at hl 1 rfl) ?_
        refine lv_iload_n C.1 C.2.1 dX10_lampsFor_76 rfl (lv_at hl 2 rfl) ?_
        refine lv_bipush C.1 C.2.1 dX10_lampsFor_77 bp_16 ?_
        obtain ⟨q6, h7, hf⟩ := bd hf
        refine m_callV (As := [.int x1, .int x2, .int (16 : Int32)]) (rest := []) C hW hx0 (cX10_fallsOn_ok  hx0 h7) mlX10_299 (by decide) rfl hl.1 rfl (Nat.le_of_ble_eq_true rfl) (Nat.le_of_ble_eq_true rfl) (Nat.le_of_ble_eq_true rfl) dX10_lampsFor_79 (fun H locs hW => ?_)
        refine lv_if_eq (tgt := 95) C.1 C.2.1 dX10_lampsFor_82 rfl (fun c8 => ?_) (fun c8 => ?_)
        · have hf := (if_pos c8).symm.trans hf
          exact kX10_lampsFor_95 ih C x0 x1 x2 x3 x4 x5 x6 _ _ _ _ hx0 hW (lv_sub hl [0, 1, 2, 3, 4, 5, 6] rfl) hf
        · have hf := (if_neg c8).symm.trans hf
          refine lv_iload C.1 C.2.1 dX10_lampsFor_85 (lv_at hl 6 rfl) ?_
          refine lv_istore_n (lv' := [(3, .int x6), (0, .ref (ad L x0)), (1, .int x1), (2, .int x2), (4, .int x4), (5, .int x5), (6, .int x6)]) C.1 C.2.1 dX10_lampsFor_87 rfl hl (by decide) rfl (fun ls hl => ?_)
          refine lv_iload C.1 C.2.1 dX10_lampsFor_88 (lv_at hl 6 rfl) ?_
          obtain ⟨q9, h10, hf⟩ := bd hf
          refine m_callS (As := [.int x6]) (rest := []) C hW (cJ6_bitCount_0f7a4_ok   h10) mlX10_267 rfl hl.1 rfl (Nat.le_of_ble_eq_true rfl) (Nat.le_of_ble_eq_true rfl) (Nat.le_of_ble_eq_true rfl) dX10_lampsFor_90 (fun H locs hW => ?_)
          refine lv_istore (lv' := [(4, .int q9), (3, .int x6), (0, .ref (ad L x0)), (1, .int x1), (2, .int x2), (5, .int x5), (6, .int x6)]) C.1 C.2.1 dX10_lampsFor_93 hl (by decide) rfl (fun ls hl => ?_)
          exact kX10_lampsFor_95 ih C x0 x1 x2 x6 q9 x5 x6 _ _ _ _ hx0 hW (lv_sub hl [2, 3, 4, 1, 0, 5, 6] rfl) hf

set_option maxRecDepth 100000 in
theorem cX10_lampsFor_ok {l : Launch} {G : Gv} {L : List Nat} {S : MS} {a0 : Nat} {a1 : Int32} {a2 : Int32} {q : (Int32 × MS)} (ha0 : a0 < shX.1 ∧ shX.2.1 a0 = 10) (hf : fX10_lampsFor a0 a1 a2 S = some q) : Mt l yX10_lampsFor cX10_lampsFor 7 (some .int) (6) G shX L S [.ref (ad L a0), .int a1, .int a2] (some (.int q.1)) q.2 := by
  refine m_enter (lv := [(0, .ref (ad L a0)), (1, .int a1), (2, .int a2)]) (plainFor_of_name (by decide)) (Nat.le_of_ble_eq_true rfl) rfl ?_
  intro p e s m below meth c A ls C hW hl
  unfold fX10_lampsFor at hf
  refine lv_aload_n C.1 C.2.1 dX10_lampsFor_0 rfl (lv_at hl 0 rfl) ?_
  refine m_getr C hW ha0 flX10_16 (by decide) dX10_lampsFor_1 (fun hk11 => ?_)
  refine lv_iload_n C.1 C.2.1 dX10_lampsFor_4 rfl (lv_at hl 1 rfl) ?_
  refine lv_iload_n C.1 C.2.1 dX10_lampsFor_5 rfl (lv_at hl 2 rfl) ?_
  obtain ⟨q12, h13, hf⟩ := bd hf
  refine m_callV (As := [.int a1, .int a2]) (rest := []) C hW hk11 (cX8_isCell_ok  hk11 h13) mlX10_221 (by decide) rfl hl.1 rfl (Nat.le_of_ble_eq_true rfl) (Nat.le_of_ble_eq_true rfl) (Nat.le_of_ble_eq_true rfl) dX10_lampsFor_6 (fun H locs hW => ?_)
  refine lv_if_ne (tgt := 14) C.1 C.2.1 dX10_lampsFor_9 rfl (fun c14 => ?_) (fun c14 => ?_)
  · have hf := (if_neg c14).symm.trans hf
    refine lv_aload_n C.1 C.2.1 dX10_lampsFor_14 rfl (lv_at hl 0 rfl) ?_
    refine m_getr C hW ha0 flX10_79 (by decide) dX10_lampsFor_15 (fun hk15 => ?_)
    refine lv_aload_n C.1 C.2.1 dX10_lampsFor_18 rfl (lv_at hl 0 rfl) ?_
    refine m_getr C hW ha0 flX10_72 (by decide) dX10_lampsFor_19 (fun hk16 => ?_)
    obtain ⟨q17, h18, hf⟩ := bd hf
    refine m_callV (As := [.ref (ad L (gR S a0 9))]) (rest := []) C hW hk15 (cX9_become_ok  hk15 hk16 h18) mlX10_264 (by decide) rfl hl.1 rfl (Nat.le_of_ble_eq_true rfl) (Nat.le_of_ble_eq_true rfl) (Nat.le_of_ble_eq_true rfl) dX10_lampsFor_22 (fun H locs hW => ?_)
    refine lv_bipush C.1 C.2.1 dX10_lampsFor_25 bp_m2 ?_
    refine lv_istore_n (lv' := [(3, .int (-2 : Int32)), (0, .ref (ad L a0)), (1, .int a1), (2, .int a2)]) C.1 C.2.1 dX10_lampsFor_27 rfl hl (by decide) rfl (fun ls hl => ?_)
    refine lv_iconst C.1 C.2.1 dX10_lampsFor_28 ic_5 ?_
    refine lv_istore (lv' := [(4, .int (5 : Int32)), (3, .int (-2 : Int32)), (0, .ref (ad L a0)), (1, .int a1), (2, .int a2)]) C.1 C.2.1 dX10_lampsFor_29 hl (by decide) rfl (fun ls hl => ?_)
    refine lv_iconst C.1 C.2.1 dX10_lampsFor_31 ic_1 ?_
    refine lv_aload_n C.1 C.2.1 dX10_lampsFor_32 rfl (lv_at hl 2 rfl) ?_
    refine m_getr C hW ha0 flX10_16 (by decide) dX10_lampsFor_33 (fun hk19 => ?_)
    refine m_getr C hW hk19 flX10_141 (by decide) dX10_lampsFor_36 (fun hk20 => ?_)
    obtain ⟨q21, h22, hf⟩ := bd hf
    refine m_callV (As := []) (rest := [.int (1 : Int32)]) C hW hk20 (cX7_size_ok  hk20 h22) mlX10_307 (by decide) rfl hl.1 rfl (Nat.le_of_ble_eq_true rfl) (Nat.le_of_ble_eq_true rfl) (Nat.le_of_ble_eq_true rfl) dX10_lampsFor_39 (fun H locs hW => ?_)
    refine lv_ishl C.1 C.2.1 dX10_lampsFor_42 ?_
    refine lv_istore (lv' := [(5, .int ((1 : Int32) <<< (q21 &&& 31))), (4, .int (5 : Int32)), (3, .int (-2 : Int32)), (0, .ref (ad L a0)), (1, .int a1), (2, .int a2)]) C.1 C.2.1 dX10_lampsFor_43 hl (by decide) rfl (fun ls hl => ?_)
    refine lv_iconst C.1 C.2.1 dX10_lampsFor_45 ic_0 ?_
    refine lv_istore (lv' := [(6, .int (0 : Int32)), (5, .int ((1 : Int32) <<< (q21 &&& 31))), (4, .int (5 : Int32)), (3, .int (-2 : Int32)), (0, .ref (ad L a0)), (1, .int a1), (2, .int a2)]) C.1 C.2.1 dX10_lampsFor_46 hl (by decide) rfl (fun ls hl => ?_)
    exact kX10_lampsFor_48  C 1000 a0 a1 a2 (-2 : Int32) (5 : Int32) ((1 : Int32) <<< (q21 &&& 31)) (0 : Int32) _ _ _ _ ha0 hW (lv_sub hl [4, 5, 6, 3, 2, 1, 0] rfl) hf
  · have hf := (if_pos c14).symm.trans hf
    refine lv_iconst C.1 C.2.1 dX10_lampsFor_12 ic_m1 ?_
    cases hf
    exact m_iret C hW dX10_lampsFor_13

def fX5_readLaw_22  (x0 : Nat) (S : MS) : Option MS := (fX5_fail  x0 (1 : Int32) (gI S x0 7) S).bind fun q1 => some q1
def fX5_readLaw (a0 : Nat) (S : MS) : Option MS := (fX5_next  a0 S).bind fun q3 => (if (gI q3 a0 5) < (31 : Int32) then fX5_readLaw_22  a0 q3 else (if (gI q3 a0 5) ≤ (33 : Int32) then (if bnd ((gI q3 a0 5) - (31 : Int32)) (lnX (gR q3 (gR q3 a0 9) 7)) = true then (fX1_isTold  (gR (pR q3 a0 10 (gR q3 (gR q3 (gR q3 a0 9) 7) ((gI q3 a0 5) - (31 : Int32)).toNatClampNeg)) a0 10) (pR q3 a0 10 (gR q3 (gR q3 (gR q3 a0 9) 7) ((gI q3 a0 5) - (31 : Int32)).toNatClampNeg))).bind fun q12 => (fX5_once  a0 q12 (pR q3 a0 10 (gR q3 (gR q3 (gR q3 a0 9) 7) ((gI q3 a0 5) - (31 : Int32)).toNatClampNeg))).bind fun q14 => (fX5_readE  a0 q14).bind fun q16 => some q16 else none) else fX5_readLaw_22  a0 q3))
set_option maxRecDepth 100000 in
theorem kX5_readLaw_22 {p : Program} {l : Launch} {e : Env} {s : State} {m : MethodId} {av : Array Value} {below : List Frame} {meth : Method} {c : Code} {A : Nat → Prop} {G : Gv} {L : List Nat} {q : MS}  (C : mC p s m av meth c cX5_readLaw RX5 1 none) : ∀ (x0 : Nat) (S : MS) (H : Heap) (locs : List Loc) (ls : Array Slot), (x0 < shX.1 ∧ shX.2.1 x0 = 5) → mW G shX L S A s H locs → lv_has ls 1 [(0, .ref (ad L x0))] → fX5_readLaw_22  x0 S = some q → W p l e (rmd (6)) s m av below meth c H locs 0 0 (MQ below (mQ G shX L q none A) av s 0 0 A) (F0 m 22 ls []) := by
  intro x0 S H locs ls hx0 hW hl hf
  unfold fX5_readLaw_22 at hf
  refine lv_aload_n C.1 C.2.1 dX5_readLaw_22 rfl (lv_at hl 0 rfl) ?_
  refine lv_iconst C.1 C.2.1 dX5_readLaw_23 ic_1 ?_
  refine lv_aload_n C.1 C.2.1 dX5_readLaw_24 rfl (lv_at hl 0 rfl) ?_
  refine m_geti C hW hx0 flX5_62 dX5_readLaw_25 ?_
  obtain ⟨q1, h2, hf⟩ := bd hf
  refine m_callV (As := [.int (1 : Int32), .int (gI S x0 7)]) (rest := []) C hW hx0 (cX5_fail_ok  hx0 h2) mlX5_93 (by decide) rfl hl.1 rfl (Nat.le_of_ble_eq_true rfl) (Nat.le_of_ble_eq_true rfl) (Nat.le_of_ble_eq_true rfl) dX5_readLaw_28 (fun H locs hW => ?_)
  cases hf
  exact m_vret C hW dX5_readLaw_31

set_option maxRecDepth 100000 in
theorem cX5_readLaw_ok {l : Launch} {G : Gv} {L : List Nat} {S : MS} {a0 : Nat} {q : MS} (ha0 : a0 < shX.1 ∧ shX.2.1 a0 = 5) (hf : fX5_readLaw a0 S = some q) : Mt l yX5_readLaw cX5_readLaw 1 none (6) G shX L S [.ref (ad L a0)] none q := by
  refine m_enter (lv := [(0, .ref (ad L a0))]) (plainFor_of_name (by decide)) (Nat.le_of_ble_eq_true rfl) rfl ?_
  intro p e s m below meth c A ls C hW hl
  unfold fX5_readLaw at hf
  refine lv_aload_n C.1 C.2.1 dX5_readLaw_0 rfl (lv_at hl 0 rfl) ?_
  obtain ⟨q3, h4, hf⟩ := bd hf
  refine m_callV (As := []) (rest := []) C hW ha0 (cX5_next_ok  ha0 h4) mlX5_87 (by decide) rfl hl.1 rfl (Nat.le_of_ble_eq_true rfl) (Nat.le_of_ble_eq_true rfl) (Nat.le_of_ble_eq_true rfl) dX5_readLaw_1 (fun H locs hW => ?_)
  refine lv_aload_n C.1 C.2.1 dX5_readLaw_4 rfl (lv_at hl 0 rfl) ?_
  refine m_geti C hW ha0 flX5_90 dX5_readLaw_5 ?_
  refine lv_bipush C.1 C.2.1 dX5_readLaw_8 bp_31 ?_
  refine lv_icmp_lt (tgt := 22) C.1 C.2.1 dX5_readLaw_10 rfl (fun c5 => ?_) (fun c5 => ?_)
  · have hf := (if_pos c5).symm.trans hf
    exact kX5_readLaw_22  C a0 _ _ _ _ ha0 hW (lv_sub hl [0] rfl) hf
  · have hf := (if_neg c5).symm.trans hf
    refine lv_aload_n C.1 C.2.1 dX5_readLaw_13 rfl (lv_at hl 0 rfl) ?_
    refine m_geti C hW ha0 flX5_90 dX5_readLaw_14 ?_
    refine lv_bipush C.1 C.2.1 dX5_readLaw_17 bp_33 ?_
    refine lv_icmp_le (tgt := 32) C.1 C.2.1 dX5_readLaw_19 rfl (fun c6 => ?_) (fun c6 => ?_)
    · have hf := (if_pos c6).symm.trans hf
      refine lv_aload_n C.1 C.2.1 dX5_readLaw_32 rfl (lv_at hl 0 rfl) ?_
      refine lv_aload_n C.1 C.2.1 dX5_readLaw_33 rfl (lv_at hl 0 rfl) ?_
      refine m_getr C hW ha0 flX5_24 (by decide) dX5_readLaw_34 (fun hk7 => ?_)
      refine m_getr C hW hk7 flX5_28 (by decide) dX5_readLaw_37 (fun hk8 => ?_)
      refine lv_aload_n C.1 C.2.1 dX5_readLaw_40 rfl (lv_at hl 0 rfl) ?_
      refine m_geti C hW ha0 flX5_90 dX5_readLaw_41 ?_
      refine lv_bipush C.1 C.2.1 dX5_readLaw_44 bp_31 ?_
      refine lv_isub C.1 C.2.1 dX5_readLaw_46 ?_
      obtain ⟨hb9, hf⟩ := gd hf
      refine m_aald (kt := 1) C hW hk8 (by decide) hb9 dX5_readLaw_47 (fun hk10 => ?_)
      refine m_putr C hW ha0 fpX5_34 (by decide) (Or.inl ⟨_, rfl⟩) hk10 dX5_readLaw_48 (fun H locs hW => ?_)
      refine lv_aload_n C.1 C.2.1 dX5_readLaw_51 rfl (lv_at hl 0 rfl) ?_
      refine lv_aload_n C.1 C.2.1 dX5_readLaw_52 rfl (lv_at hl 0 rfl) ?_
      refine m_getr C hW ha0 flX5_34 (by decide) dX5_readLaw_53 (fun hk11 => ?_)
      obtain ⟨q12, h13, hf⟩ := bd hf
      refine m_callV (As := []) (rest := [.ref (ad L a0)]) C hW hk11 (cX1_isTold_ok  hk11 h13) mlX5_211 (by decide) rfl hl.1 rfl (Nat.le_of_ble_eq_true rfl) (Nat.le_of_ble_eq_true rfl) (Nat.le_of_ble_eq_true rfl) dX5_readLaw_56 (fun H locs hW => ?_)
      obtain ⟨q14, h15, hf⟩ := bd hf
      refine m_callV (As := [.int q12]) (rest := []) C hW ha0 (cX5_once_ok  ha0 h15) mlX5_146 (by decide) rfl hl.1 rfl (Nat.le_of_ble_eq_true rfl) (Nat.le_of_ble_eq_true rfl) (Nat.le_of_ble_eq_true rfl) dX5_readLaw_59 (fun H locs hW => ?_)
      refine lv_aload_n C.1 C.2.1 dX5_readLaw_62 rfl (lv_at hl 0 rfl) ?_
      obtain ⟨q16, h17, hf⟩ := bd hf
      refine m_callV (As := []) (rest := []) C hW ha0 (cX5_readE_ok  ha0 h17) mlX5_214 (by decide) rfl hl.1 rfl (Nat.le_of_ble_eq_true rfl) (Nat.le_of_ble_eq_true rfl) (Nat.le_of_ble_eq_true rfl) dX5_readLaw_63 (fun H locs hW => ?_)
      cases hf
      exact m_vret C hW dX5_readLaw_66
    · have hf := (if_neg c6).symm.trans hf
      exact kX5_readLaw_22  C a0 _ _ _ _ ha0 hW (lv_sub hl [0] rfl) hf

def fX10_where (a0 : Nat) (a1 : Int32) (S : MS) : Option (Int32 × MS) := (fX0_fallNow  (gR S a0 4) (gR S a0 9) S).bind fun q3 => (if a1 = (0 : Int32) then some (gI q3 (gR q3 a0 9) 4, q3) else if a1 = (1 : Int32) then some (gI q3 (gR q3 a0 9) 5, q3) else if a1 = (2 : Int32) then some (gI q3 (gR q3 a0 9) 12, q3) else if a1 = (3 : Int32) then some (gI q3 (gR q3 a0 9) 13, q3) else if a1 = (4 : Int32) then (if gI q3 (gR q3 a0 9) 14 = (0 : Int32) then some ((0 : Int32), q3) else some ((1 : Int32), q3)) else if a1 = (5 : Int32) then some (gI q3 (gR q3 a0 9) 6, q3) else some ((-1 : Int32), q3))
set_option maxRecDepth 100000 in
theorem cX10_where_ok {l : Launch} {G : Gv} {L : List Nat} {S : MS} {a0 : Nat} {a1 : Int32} {q : (Int32 × MS)} (ha0 : a0 < shX.1 ∧ shX.2.1 a0 = 10) (hf : fX10_where a0 a1 S = some q) : Mt l yX10_where cX10_where 2 (some .int) (6) G shX L S [.ref (ad L a0), .int a1] (some (.int q.1)) q.2 := by
  refine m_enter (lv := [(0, .ref (ad L a0)), (1, .int a1)]) (plainFor_of_name (by decide)) (Nat.le_of_ble_eq_true rfl) rfl ?_
  intro p e s m below meth c A ls C hW hl
  unfold fX10_where at hf
  refine lv_aload_n C.1 C.2.1 dX10_where_0 rfl (lv_at hl 0 rfl) ?_
  refine m_getr C hW ha0 flX10_35 (by decide) dX10_where_1 (fun hk1 => ?_)
  refine lv_aload_n C.1 C.2.1 dX10_where_4 rfl (lv_at hl 0 rfl) ?_
  refine m_getr C hW ha0 flX10_72 (by decide) dX10_where_5 (fun hk2 => ?_)
  obtain ⟨q3, h4, hf⟩ := bd hf
  refine m_callV (As := [.ref (ad L (gR S a0 9))]) (rest := []) C hW hk1 (cX0_fallNow_ok  hk1 hk2 h4) mlX10_157 (by decide) rfl hl.1 rfl (Nat.le_of_ble_eq_true rfl) (Nat.le_of_ble_eq_true rfl) (Nat.le_of_ble_eq_true rfl) dX10_where_8 (fun H locs hW => ?_)
  refine lv_iload_n C.1 C.2.1 dX10_where_11 rfl (lv_at hl 1 rfl) ?_
  by_cases c5 : a1 = (0 : Int32)
  · have hf := (if_pos c5).symm.trans hf
    refine lv_tableIn (tgt := 52) C.1 C.2.1 dX10_where_12 (by rw [c5]; decide) (by rw [c5]; decide) (by rw [c5]; rfl) rfl ?_
    refine lv_aload_n C.1 C.2.1 dX10_where_52 rfl (lv_at hl 0 rfl) ?_
    refine m_getr C hW ha0 flX10_72 (by decide) dX10_where_53 (fun hk6 => ?_)
    refine m_geti C hW hk6 flX10_161 dX10_where_56 ?_
    cases hf
    exact m_iret C hW dX10_where_59
  have hf := (if_neg c5).symm.trans hf
  by_cases c7 : a1 = (1 : Int32)
  · have hf := (if_pos c7).symm.trans hf
    refine lv_tableIn (tgt := 60) C.1 C.2.1 dX10_where_12 (by rw [c7]; decide) (by rw [c7]; decide) (by rw [c7]; rfl) rfl ?_
    refine lv_aload_n C.1 C.2.1 dX10_where_60 rfl (lv_at hl 0 rfl) ?_
    refine m_getr C hW ha0 flX10_72 (by decide) dX10_where_61 (fun hk8 => ?_)
    refine m_geti C hW hk8 flX10_164 dX10_where_64 ?_
    cases hf
    exact m_iret C hW dX10_where_67
  have hf := (if_neg c7).symm.trans hf
  by_cases c9 : a1 = (2 : Int32)
  · have hf := (if_pos c9).symm.trans hf
    refine lv_tableIn (tgt := 68) C.1 C.2.1 dX10_where_12 (by rw [c9]; decide) (by rw [c9]; decide) (by rw [c9]; rfl) rfl ?_
    refine lv_aload_n C.1 C.2.1 dX10_where_68 rfl (lv_at hl 0 rfl) ?_
    refine m_getr C hW ha0 flX10_72 (by decide) dX10_where_69 (fun hk10 => ?_)
    refine m_geti C hW hk10 flX10_167 dX10_where_72 ?_
    cases hf
    exact m_iret C hW dX10_where_75
  have hf := (if_neg c9).symm.trans hf
  by_cases c11 : a1 = (3 : Int32)
  · have hf := (if_pos c11).symm.trans hf
    refine lv_tableIn (tgt := 76) C.1 C.2.1 dX10_where_12 (by rw [c11]; decide) (by rw [c11]; decide) (by rw [c11]; rfl) rfl ?_
    refine lv_aload_n C.1 C.2.1 dX10_where_76 rfl (lv_at hl 0 rfl) ?_
    refine m_getr C hW ha0 flX10_72 (by decide) dX10_where_77 (fun hk12 => ?_)
    refine m_geti C hW hk12 flX10_170 dX10_where_80 ?_
    cases hf
    exact m_iret C hW dX10_where_83
  have hf := (if_neg c11).symm.trans hf
  by_cases c13 : a1 = (4 : Int32)
  · have hf := (if_pos c13).symm.trans hf
    refine lv_tableIn (tgt := 84) C.1 C.2.1 dX10_where_12 (by rw [c13]; decide) (by rw [c13]; decide) (by rw [c13]; rfl) rfl ?_
    refine lv_aload_n C.1 C.2.1 dX10_where_84 rfl (lv_at hl 0 rfl) ?_
    refine m_getr C hW ha0 flX10_72 (by decide) dX10_where_85 (fun hk14 => ?_)
    refine m_geti C hW hk14 flX10_173 dX10_where_88 ?_
    refine lv_if_eq (tgt := 98) C.1 C.2.1 dX10_where_91 rfl (fun c15 => ?_) (fun c15 => ?_)
    · have hf := (if_pos c15).symm.trans hf
      refine lv_iconst C.1 C.2.1 dX10_where_98 ic_0 ?_
      cases hf
      exact m_iret C hW dX10_where_99
    · have hf := (if_neg c15).symm.trans hf
      refine lv_iconst C.1 C.2.1 dX10_where_94 ic_1 ?_
      refine lv_goto (tgt := 99) C.1 C.2.1 dX10_where_95 rfl ?_
      cases hf
      exact m_iret C hW dX10_where_99
  have hf := (if_neg c13).symm.trans hf
  by_cases c16 : a1 = (5 : Int32)
  · have hf := (if_pos c16).symm.trans hf
    refine lv_tableIn (tgt := 100) C.1 C.2.1 dX10_where_12 (by rw [c16]; decide) (by rw [c16]; decide) (by rw [c16]; rfl) rfl ?_
    refine lv_aload_n C.1 C.2.1 dX10_where_100 rfl (lv_at hl 0 rfl) ?_
    refine m_getr C hW ha0 flX10_72 (by decide) dX10_where_101 (fun hk17 => ?_)
    refine m_geti C hW hk17 flX10_176 dX10_where_104 ?_
    cases hf
    exact m_iret C hW dX10_where_107
  have hf := (if_neg c16).symm.trans hf
  by_cases ho18 : a1.toInt < 0 ∨ 5 < a1.toInt
  · refine lv_tableOut (tgt := 108) C.1 C.2.1 dX10_where_12 ho18 rfl ?_
    refine lv_iconst C.1 C.2.1 dX10_where_108 ic_m1 ?_
    cases hf
    exact m_iret C hW dX10_where_109
  · exfalso
    have := tn_e c5 (0) (by decide)
    have := tn_e c7 (1) (by decide)
    have := tn_e c9 (2) (by decide)
    have := tn_e c11 (3) (by decide)
    have := tn_e c13 (4) (by decide)
    have := tn_e c16 (5) (by decide)
    omega

def fX10_law (a0 : Nat) (a1 : Int32) (a2 : Int32) (S : MS) : Option (Int64 × MS) := (if a1 = (0 : Int32) then (fX0_fallNow  (gR S a0 4) (gR S a0 9) S).bind fun q4 => (fX0_tell  (gR q4 a0 4) (gR q4 a0 9) (gI q4 (gR q4 a0 9) 15) (0 : Int32) (0 : Int32) q4).bind fun q9 => (fX0_workOut  (gR q9 a0 4) (0 : Int32) q9).bind fun q12 => some (q12.1, q12.2) else if a1 = (1 : Int32) then (fX10_isMan  a0 a2 S).bind fun q15 => (if q15 = (0 : Int32) then some ((-9223372036854775808 : Int64), S) else (if bnd a2 (lnX (gR S (gR S a0 9) 0)) = true then (if bnd a2 (lnX (gR S (gR S a0 9) 1)) = true then (fX9_onceMore  (gI S (gR S (gR S a0 9) 1) a2.toNatClampNeg) S).bind fun q26 => (fX0_tell  (gR S a0 4) (gR S a0 9) (0 : Int32) (gI S (gR S (gR S a0 9) 0) a2.toNatClampNeg) q26 S).bind fun q28 => (fX0_workOut  (gR q28 a0 4) (1 : Int32) q28).bind fun q31 => some (q31.1, q31.2) else none) else none)) else if a1 = (2 : Int32) then (fX0_tell  (gR S a0 4) (gR S a0 9) (0 : Int32) (0 : Int32) (0 : Int32) S).bind fun q36 => (fX0_workOut  (gR q36 a0 4) (2 : Int32) q36).bind fun q39 => some (q39.1, q39.2) else some ((-9223372036854775808 : Int64), S))
set_option maxRecDepth 100000 in
theorem cX10_law_ok {l : Launch} {G : Gv} {L : List Nat} {S : MS} {a0 : Nat} {a1 : Int32} {a2 : Int32} {q : (Int64 × MS)} (ha0 : a0 < shX.1 ∧ shX.2.1 a0 = 10) (hf : fX10_law a0 a1 a2 S = some q) : Mt l yX10_law cX10_law 3 (some .long) (6) G shX L S [.ref (ad L a0), .int a1, .int a2] (some (.long q.1)) q.2 := by
  refine m_enter (lv := [(0, .ref (ad L a0)), (1, .int a1), (2, .int a2)]) (plainFor_of_name (by decide)) (Nat.le_of_ble_eq_true rfl) rfl ?_
  intro p e s m below meth c A ls C hW hl
  unfold fX10_law at hf
  refine lv_iload_n C.1 C.2.1 dX10_law_0 rfl (lv_at hl 1 rfl) ?_
  by_cases c1 : a1 = (0 : Int32)
  · have hf := (if_pos c1).symm.trans hf
    refine lv_tableIn (tgt := 28) C.1 C.2.1 dX10_law_1 (by rw [c1]; decide) (by rw [c1]; decide) (by rw [c1]; rfl) rfl ?_
    refine lv_aload_n C.1 C.2.1 dX10_law_28 rfl (lv_at hl 0 rfl) ?_
    refine m_getr C hW ha0 flX10_35 (by decide) dX10_law_29 (fun hk2 => ?_)
    refine lv_aload_n C.1 C.2.1 dX10_law_32 rfl (lv_at hl 0 rfl) ?_
    refine m_getr C hW ha0 flX10_72 (by decide) dX10_law_33 (fun hk3 => ?_)
    obtain ⟨q4, h5, hf⟩ := bd hf
    refine m_callV (As := [.ref (ad L (gR S a0 9))]) (rest := []) C hW hk2 (cX0_fallNow_ok  hk2 hk3 h5) mlX10_157 (by decide) rfl hl.1 rfl (Nat.le_of_ble_eq_true rfl) (Nat.le_of_ble_eq_true rfl) (Nat.le_of_ble_eq_true rfl) dX10_law_36 (fun H locs hW => ?_)
    refine lv_aload_n C.1 C.2.1 dX10_law_39 rfl (lv_at hl 0 rfl) ?_
    refine m_getr C hW ha0 flX10_35 (by decide) dX10_law_40 (fun hk6 => ?_)
    refine lv_aload_n C.1 C.2.1 dX10_law_43 rfl (lv_at hl 0 rfl) ?_
    refine m_getr C hW ha0 flX10_72 (by decide) dX10_law_44 (fun hk7 => ?_)
    refine lv_aload_n C.1 C.2.1 dX10_law_47 rfl (lv_at hl 0 rfl) ?_
    refine m_getr C hW ha0 flX10_72 (by decide) dX10_law_48 (fun hk8 => ?_)
    refine m_geti C hW hk8 flX10_228 dX10_law_51 ?_
    refine lv_iconst C.1 C.2.1 dX10_law_54 ic_0 ?_
    refine lv_iconst C.1 C.2.1 dX10_law_55 ic_0 ?_
    obtain ⟨q9, h10, hf⟩ := bd hf
    refine m_callV (As := [.ref (ad L (gR q4 a0 9)), .int (gI q4 (gR q4 a0 9) 15), .int (0 : Int32), .int (0 : Int32)]) (rest := []) C hW hk6 (cX0_tell_ok  hk6 hk7 h10) mlX10_231 (by decide) rfl hl.1 rfl (Nat.le_of_ble_eq_true rfl) (Nat.le_of_ble_eq_true rfl) (Nat.le_of_ble_eq_true rfl) dX10_law_56 (fun H locs hW => ?_)
    refine lv_aload_n C.1 C.2.1 dX10_law_59 rfl (lv_at hl 0 rfl) ?_
    refine m_getr C hW ha0 flX10_35 (by decide) dX10_law_60 (fun hk11 => ?_)
    refine lv_iconst C.1 C.2.1 dX10_law_63 ic_0 ?_
    obtain ⟨q12, h13, hf⟩ := bd hf
    refine m_callV (As := [.int (0 : Int32)]) (rest := []) C hW hk11 (cX0_workOut_ok  hk11 h13) mlX10_235 (by decide) rfl hl.1 rfl (Nat.le_of_ble_eq_true rfl) (Nat.le_of_ble_eq_true rfl) (Nat.le_of_ble_eq_true rfl) dX10_law_64 (fun H locs hW => ?_)
    cases hf
    exact m_lret C hW dX10_law_67
  have hf := (if_neg c1).symm.trans hf
  by_cases c14 : a1 = (1 : Int32)
  · have hf := (if_pos c14).symm.trans hf
    refine lv_tableIn (tgt := 68) C.1 C.2.1 dX10_law_1 (by rw [c14]; decide) (by rw [c14]; decide) (by rw [c14]; rfl) rfl ?_
    refine lv_aload_n C.1 C.2.1 dX10_law_68 rfl (lv_at hl 0 rfl) ?_
    refine lv_iload_n C.1 C.2.1 dX10_law_69 rfl (lv_at hl 2 rfl) ?_
    obtain ⟨q15, h16, hf⟩ := bd hf
    refine m_callV (As := [.int a2]) (rest := []) C hW ha0 (cX10_isMan_ok  ha0 h16) mlX10_201 (by decide) rfl hl.1 rfl (Nat.le_of_ble_eq_true rfl) (Nat.le_of_ble_eq_true rfl) (Nat.le_of_ble_eq_true rfl) dX10_law_70 (fun H locs hW => ?_)
    refine lv_if_ne (tgt := 80) C.1 C.2.1 dX10_law_73 rfl (fun c17 => ?_) (fun c17 => ?_)
    · have hf := (if_neg c17).symm.trans hf
      refine lv_aload_n C.1 C.2.1 dX10_law_80 rfl (lv_at hl 0 rfl) ?_
      refine m_getr C hW ha0 flX10_35 (by decide) dX10_law_81 (fun hk18 => ?_)
      refine lv_aload_n C.1 C.2.1 dX10_law_84 rfl (lv_at hl 0 rfl) ?_
      refine m_getr C hW ha0 flX10_72 (by decide) dX10_law_85 (fun hk19 => ?_)
      refine lv_iconst C.1 C.2.1 dX10_law_88 ic_0 ?_
      refine lv_aload_n C.1 C.2.1 dX10_law_89 rfl (lv_at hl 0 rfl) ?_
      refine m_getr C hW ha0 flX10_72 (by decide) dX10_law_90 (fun hk20 => ?_)
      refine m_getr C hW hk20 flX10_204 (by decide) dX10_law_93 (fun hk21 => ?_)
      refine lv_iload_n C.1 C.2.1 dX10_law_96 rfl (lv_at hl 2 rfl) ?_
      obtain ⟨hb22, hf⟩ := gd hf
      refine m_iald C hW hk21 hb22 dX10_law_97 ?_
      refine lv_aload_n C.1 C.2.1 dX10_law_98 rfl (lv_at hl 0 rfl) ?_
      refine m_getr C hW ha0 flX10_72 (by decide) dX10_law_99 (fun hk23 => ?_)
      refine m_getr C hW hk23 flX10_208 (by decide) dX10_law_102 (fun hk24 => ?_)
      refine lv_iload_n C.1 C.2.1 dX10_law_105 rfl (lv_at hl 2 rfl) ?_
      obtain ⟨hb25, hf⟩ := gd hf
      refine m_iald C hW hk24 hb25 dX10_law_106 ?_
      obtain ⟨q26, h27, hf⟩ := bd hf
      refine m_callS (As := [.int (gI S (gR S (gR S a0 9) 1) a2.toNatClampNeg)]) (rest := [.int (gI S (gR S (gR S a0 9) 0) a2.toNatClampNeg), .int (0 : Int32), .ref (ad L (gR S a0 9)), .ref (ad L (gR S a0 4))]) C hW (cX9_onceMore_ok   h27) mlX10_241 rfl hl.1 rfl (Nat.le_of_ble_eq_true rfl) (Nat.le_of_ble_eq_true rfl) (Nat.le_of_ble_eq_true rfl) dX10_law_107 (fun H locs hW => ?_)
      obtain ⟨q28, h29, hf⟩ := bd hf
      refine m_callV (As := [.ref (ad L (gR S a0 9)), .int (0 : Int32), .int (gI S (gR S (gR S a0 9) 0) a2.toNatClampNeg), .int q26]) (rest := []) C hW hk18 (cX0_tell_ok  hk18 hk19 h29) mlX10_231 (by decide) rfl hl.1 rfl (Nat.le_of_ble_eq_true rfl) (Nat.le_of_ble_eq_true rfl) (Nat.le_of_ble_eq_true rfl) dX10_law_110 (fun H locs hW => ?_)
      refine lv_aload_n C.1 C.2.1 dX10_law_113 rfl (lv_at hl 0 rfl) ?_
      refine m_getr C hW ha0 flX10_35 (by decide) dX10_law_114 (fun hk30 => ?_)
      refine lv_iconst C.1 C.2.1 dX10_law_117 ic_1 ?_
      obtain ⟨q31, h32, hf⟩ := bd hf
      refine m_callV (As := [.int (1 : Int32)]) (rest := []) C hW hk30 (cX0_workOut_ok  hk30 h32) mlX10_235 (by decide) rfl hl.1 rfl (Nat.le_of_ble_eq_true rfl) (Nat.le_of_ble_eq_true rfl) (Nat.le_of_ble_eq_true rfl) dX10_law_118 (fun H locs hW => ?_)
      cases hf
      exact m_lret C hW dX10_law_121
    · have hf := (if_pos c17).symm.trans hf
      refine lv_ldc2 C.1 C.2.1 C.2.2.2.1 (C.2.2.2.2.1 _ kw_998) dX10_law_76 ?_
      cases hf
      exact m_lret C hW dX10_law_79
  have hf := (if_neg c14).symm.trans hf
  by_cases c33 : a1 = (2 : Int32)
  · have hf := (if_pos c33).symm.trans hf
    refine lv_tableIn (tgt := 122) C.1 C.2.1 dX10_law_1 (by rw [c33]; decide) (by rw [c33]; decide) (by rw [c33]; rfl) rfl ?_
    refine lv_aload_n C.1 C.2.1 dX10_law_122 rfl (lv_at hl 0 rfl) ?_
    refine m_getr C hW ha0 flX10_35 (by decide) dX10_law_123 (fun hk34 => ?_)
    refine lv_aload_n C.1 C.2.1 dX10_law_126 rfl (lv_at hl 0 rfl) ?_
    refine m_getr C hW ha0 flX10_72 (by decide) dX10_law_127 (fun hk35 => ?_)
    refine lv_iconst C.1 C.2.1 dX10_law_130 ic_0 ?_
    refine lv_iconst C.1 C.2.1 dX10_law_131 ic_0 ?_
    refine lv_iconst C.1 C.2.1 dX10_law_132 ic_0 ?_
    obtain ⟨q36, h37, hf⟩ := bd hf
    refine m_callV (As := [.ref (ad L (gR S a0 9)), .int (0 : Int32), .int (0 : Int32), .int (0 : Int32)]) (rest := []) C hW hk34 (cX0_tell_ok  hk34 hk35 h37) mlX10_231 (by decide) rfl hl.1 rfl (Nat.le_of_ble_eq_true rfl) (Nat.le_of_ble_eq_true rfl) (Nat.le_of_ble_eq_true rfl) dX10_law_133 (fun H locs hW => ?_)
    refine lv_aload_n C.1 C.2.1 dX10_law_136 rfl (lv_at hl 0 rfl) ?_
    refine m_getr C hW ha0 flX10_35 (by decide) dX10_law_137 (fun hk38 => ?_)
    refine lv_iconst C.1 C.2.1 dX10_law_140 ic_2 ?_
    obtain ⟨q39, h40, hf⟩ := bd hf
    refine m_callV (As := [.int (2 : Int32)]) (rest := []) C hW hk38 (cX0_workOut_ok  hk38 h40) mlX10_235 (by decide) rfl hl.1 rfl (Nat.le_of_ble_eq_true rfl) (Nat.le_of_ble_eq_true rfl) (Nat.le_of_ble_eq_true rfl) dX10_law_141 (fun H locs hW => ?_)
    cases hf
    exact m_lret C hW dX10_law_144
  have hf := (if_neg c33).symm.trans hf
  by_cases ho41 : a1.toInt < 0 ∨ 2 < a1.toInt
  · refine lv_tableOut (tgt := 145) C.1 C.2.1 dX10_law_1 ho41 rfl ?_
    refine lv_ldc2 C.1 C.2.1 C.2.2.2.1 (C.2.2.2.2.1 _ kw_998) dX10_law_145 ?_
    cases hf
    exact m_lret C hW dX10_law_148
  · exfalso
    have := tn_e c1 (0) (by decide)
    have := tn_e c14 (1) (by decide)
    have := tn_e c33 (2) (by decide)
    omega

def fX10_when_29  : Nat → Nat → Int32 → Int32 → MS → Option (Int32 × MS)
  | 0, _, _, _, _ => none
  | n + 1, x0, x1, x2, S => (if (99 : Int32) < x2 then some ((-2 : Int32), S) else (if ((gI S (gR S x0 11) 8) >>> (x1 &&& 31)) &&& (1 : Int32) = (1 : Int32) then some (x2, S) else (fX0_pass  (gR S x0 4) (gR S x0 11) (0 : Int32) S).bind fun q6 => (fX10_when_29  n) x0 x1 (x2 + (1 : Int32)) q6))
def fX10_when (a0 : Nat) (a1 : Int32) (S : MS) : Option (Int32 × MS) := (fX7_has  (gR S (gR S a0 1) 5) a1 S).bind fun q10 => (if q10 = (0 : Int32) then some ((-1 : Int32), S) else (fX9_become  (gR S a0 11) (gR S a0 9) S).bind fun q15 => fX10_when_29  1000 a0 a1 (0 : Int32) q15)
set_option maxRecDepth 100000 in
theorem kX10_when_29 {p : Program} {l : Launch} {e : Env} {s : State} {m : MethodId} {av : Array Value} {below : List Frame} {meth : Method} {c : Code} {A : Nat → Prop} {G : Gv} {L : List Nat} {q : (Int32 × MS)}  (C : mC p s m av meth c cX10_when RX10 3 (some .int)) : ∀ (n : Nat) (x0 : Nat) (x1 : Int32) (x2 : Int32) (S : MS) (H : Heap) (locs : List Loc) (ls : Array Slot), (x0 < shX.1 ∧ shX.2.1 x0 = 10) → mW G shX L S A s H locs → lv_has ls 3 [(0, .ref (ad L x0)), (1, .int x1), (2, .int x2)] → fX10_when_29  n x0 x1 x2 S = some q → W p l e (rmd (6)) s m av below meth c H locs 0 0 (MQ below (mQ G shX L q.2 (some (.int q.1)) A) av s 0 0 A) (F0 m 29 ls []) := by
  intro n
  induction n with
  | zero =>
    intro x0 x1 x2 S H locs ls hx0 hW hl hf
    rw [fX10_when_29] at hf
    cases hf
  | succ n ih =>
    intro x0 x1 x2 S H locs ls hx0 hW hl hf
    rw [fX10_when_29] at hf
    refine lv_iload_n C.1 C.2.1 dX10_when_29 rfl (lv_at hl 2 rfl) ?_
    refine lv_bipush C.1 C.2.1 dX10_when_30 bp_99 ?_
    refine lv_icmp_gt (tgt := 70) C.1 C.2.1 dX10_when_32 rfl (fun c1 => ?_) (fun c1 => ?_)
    · have hf := (if_pos c1).symm.trans hf
      refine lv_bipush C.1 C.2.1 dX10_when_70 bp_m2 ?_
      cases hf
      exact m_iret C hW dX10_when_72
    · have hf := (if_neg c1).symm.trans hf
      refine lv_aload_n C.1 C.2.1 dX10_when_35 rfl (lv_at hl 0 rfl) ?_
      refine m_getr C hW hx0 flX10_79 (by decide) dX10_when_36 (fun hk2 => ?_)
      refine m_geti C hW hk2 flX10_195 dX10_when_39 ?_
      refine lv_iload_n C.1 C.2.1 dX10_when_42 rfl (lv_at hl 1 rfl) ?_
      refine lv_ishr C.1 C.2.1 dX10_when_43 ?_
      refine lv_iconst C.1 C.2.1 dX10_when_44 ic_1 ?_
      refine lv_iand C.1 C.2.1 dX10_when_45 ?_
      refine lv_iconst C.1 C.2.1 dX10_when_46 ic_1 ?_
      refine lv_icmp_ne (tgt := 52) C.1 C.2.1 dX10_when_47 rfl (fun c3 => ?_) (fun c3 => ?_)
      · have hf := (if_neg c3).symm.trans hf
        refine lv_aload_n C.1 C.2.1 dX10_when_52 rfl (lv_at hl 0 rfl) ?_
        refine m_getr C hW hx0 flX10_35 (by decide) dX10_when_53 (fun hk4 => ?_)
        refine lv_aload_n C.1 C.2.1 dX10_when_56 rfl (lv_at hl 0 rfl) ?_
        refine m_getr C hW hx0 flX10_79 (by decide) dX10_when_57 (fun hk5 => ?_)
        refine lv_iconst C.1 C.2.1 dX10_when_60 ic_0 ?_
        obtain ⟨q6, h7, hf⟩ := bd hf
        refine m_callV (As := [.ref (ad L (gR S x0 11)), .int (0 : Int32)]) (rest := []) C hW hk4 (cX0_pass_ok  hk4 hk5 h7) mlX10_285 (by decide) rfl hl.1 rfl (Nat.le_of_ble_eq_true rfl) (Nat.le_of_ble_eq_true rfl) (Nat.le_of_ble_eq_true rfl) dX10_when_61 (fun H locs hW => ?_)
        refine lv_iinc (v := x2 + (1 : Int32)) (lv' := [(2, .int (x2 + (1 : Int32))), (0, .ref (ad L x0)), (1, .int x1)]) C.1 C.2.1 dX10_when_64 hl (k := 2) rfl (congrArg (fun z => x2 + z) ic_1) (by decide) rfl (fun ls hl => ?_)
        refine lv_goto (tgt := 29) C.1 C.2.1 dX10_when_67 rfl ?_
        exact ih x0 x1 (x2 + (1 : Int32)) _ _ _ _ hx0 hW (lv_sub hl [1, 2, 0] rfl) hf
      · have hf := (if_pos c3).symm.trans hf
        refine lv_iload_n C.1 C.2.1 dX10_when_50 rfl (lv_at hl 2 rfl) ?_
        cases hf
        exact m_iret C hW dX10_when_51

set_option maxRecDepth 100000 in
theorem cX10_when_ok {l : Launch} {G : Gv} {L : List Nat} {S : MS} {a0 : Nat} {a1 : Int32} {q : (Int32 × MS)} (ha0 : a0 < shX.1 ∧ shX.2.1 a0 = 10) (hf : fX10_when a0 a1 S = some q) : Mt l yX10_when cX10_when 3 (some .int) (6) G shX L S [.ref (ad L a0), .int a1] (some (.int q.1)) q.2 := by
  refine m_enter (lv := [(0, .ref (ad L a0)), (1, .int a1)]) (plainFor_of_name (by decide)) (Nat.le_of_ble_eq_true rfl) rfl ?_
  intro p e s m below meth c A ls C hW hl
  unfold fX10_when at hf
  refine lv_aload_n C.1 C.2.1 dX10_when_0 rfl (lv_at hl 0 rfl) ?_
  refine m_getr C hW ha0 flX10_16 (by decide) dX10_when_1 (fun hk8 => ?_)
  refine m_getr C hW hk8 flX10_151 (by decide) dX10_when_4 (fun hk9 => ?_)
  refine lv_iload_n C.1 C.2.1 dX10_when_7 rfl (lv_at hl 1 rfl) ?_
  obtain ⟨q10, h11, hf⟩ := bd hf
  refine m_callV (As := [.int a1]) (rest := []) C hW hk9 (cX7_has_ok  hk9 h11) mlX10_179 (by decide) rfl hl.1 rfl (Nat.le_of_ble_eq_true rfl) (Nat.le_of_ble_eq_true rfl) (Nat.le_of_ble_eq_true rfl) dX10_when_8 (fun H locs hW => ?_)
  refine lv_if_ne (tgt := 16) C.1 C.2.1 dX10_when_11 rfl (fun c12 => ?_) (fun c12 => ?_)
  · have hf := (if_neg c12).symm.trans hf
    refine lv_aload_n C.1 C.2.1 dX10_when_16 rfl (lv_at hl 0 rfl) ?_
    refine m_getr C hW ha0 flX10_79 (by decide) dX10_when_17 (fun hk13 => ?_)
    refine lv_aload_n C.1 C.2.1 dX10_when_20 rfl (lv_at hl 0 rfl) ?_
    refine m_getr C hW ha0 flX10_72 (by decide) dX10_when_21 (fun hk14 => ?_)
    obtain ⟨q15, h16, hf⟩ := bd hf
    refine m_callV (As := [.ref (ad L (gR S a0 9))]) (rest := []) C hW hk13 (cX9_become_ok  hk13 hk14 h16) mlX10_264 (by decide) rfl hl.1 rfl (Nat.le_of_ble_eq_true rfl) (Nat.le_of_ble_eq_true rfl) (Nat.le_of_ble_eq_true rfl) dX10_when_24 (fun H locs hW => ?_)
    refine lv_iconst C.1 C.2.1 dX10_when_27 ic_0 ?_
    refine lv_istore_n (lv' := [(2, .int (0 : Int32)), (0, .ref (ad L a0)), (1, .int a1)]) C.1 C.2.1 dX10_when_28 rfl hl (by decide) rfl (fun ls hl => ?_)
    exact kX10_when_29  C 1000 a0 a1 (0 : Int32) _ _ _ _ ha0 hW (lv_sub hl [1, 2, 0] rfl) hf
  · have hf := (if_pos c12).symm.trans hf
    refine lv_iconst C.1 C.2.1 dX10_when_14 ic_m1 ?_
    cases hf
    exact m_iret C hW dX10_when_15

def fX10_cast_121 (K49 : Nat → Int32 → Int32 → Int32 → Int32 → MS → Option (Int32 × MS)) (K64 : Nat → Int32 → Int32 → Int32 → Int32 → Int32 → MS → Option (Int32 × MS)) (x0 : Nat) (x1 : Int32) (x2 : Int32) (x4 : Int32) (x5 : Int32) (x6 : Int32) (S : MS) : Option (Int32 × MS) := K64 x0 x1 x2 x4 x5 (x6 + (1 : Int32)) S
def fX10_cast_64 (K49 : Nat → Int32 → Int32 → Int32 → Int32 → MS → Option (Int32 × MS)) : Nat → Nat → Int32 → Int32 → Int32 → Int32 → Int32 → MS → Option (Int32 × MS)
  | 0, _, _, _, _, _, _, _ => none
  | n + 1, x0, x1, x2, x4, x5, x6, S => (if (gI S (gR S x0 1) 9) ≤ x6 then K49 x0 x1 x2 x4 (x5 + (1 : Int32)) S else (fX8_isWall  (gR (pI (pI S (gR S x0 11) 4 x5) (gR (pI S (gR S x0 11) 4 x5) x0 11) 5 x6) x0 1) x5 x6 (pI (pI S (gR S x0 11) 4 x5) (gR (pI S (gR S x0 11) 4 x5) x0 11) 5 x6)).bind fun q6 => (if q6 = (0 : Int32) then (fX10_fallsOn  x0 x1 x2 (0 : Int32) (pI (pI S (gR S x0 11) 4 x5) (gR (pI S (gR S x0 11) 4 x5) x0 11) 5 x6)).bind fun q9 => (if q9.1 = (0 : Int32) then fX10_cast_121 K49 (fX10_cast_64 K49 n) x0 x1 x2 x4 x5 x6 q9.2 else fX10_cast_121 K49 (fX10_cast_64 K49 n) x0 x1 x2 (x4 + (1 : Int32)) x5 x6 q9.2) else fX10_cast_121 K49 (fX10_cast_64 K49 n) x0 x1 x2 x4 x5 x6 (pI (pI S (gR S x0 11) 4 x5) (gR (pI S (gR S x0 11) 4 x5) x0 11) 5 x6)))
def fX10_cast_49  : Nat → Nat → Int32 → Int32 → Int32 → Int32 → MS → Option (Int32 × MS)
  | 0, _, _, _, _, _, _ => none
  | n + 1, x0, x1, x2, x4, x5, S => (if (gI S (gR S x0 1) 8) ≤ x5 then some (x4, S) else fX10_cast_64 (fX10_cast_49  n) 1000 x0 x1 x2 x4 x5 (0 : Int32) S)
def fX10_cast (a0 : Nat) (a1 : Int32) (a2 : Int32) (a3 : Int32) (S : MS) : Option (Int32 × MS) := (fX8_isCell  (gR S a0 1) a1 a2 S).bind fun q15 => (if q15 = (0 : Int32) then some ((-1 : Int32), S) else (if a3 < (0 : Int32) then some ((-1 : Int32), S) else (if a3 < (24 : Int32) then (fX9_become  (gR S a0 11) (gR S a0 9) S).bind fun q22 => fX10_cast_49  1000 a0 a1 a2 (0 : Int32) (0 : Int32) (pI q22 (gR q22 a0 11) 3 a3) else some ((-1 : Int32), S))))
set_option maxRecDepth 100000 in
theorem kX10_cast_121 {p : Program} {l : Launch} {e : Env} {s : State} {m : MethodId} {av : Array Value} {below : List Frame} {meth : Method} {c : Code} {A : Nat → Prop} {G : Gv} {L : List Nat} {q : (Int32 × MS)} {K49 : Nat → Int32 → Int32 → Int32 → Int32 → MS → Option (Int32 × MS)} {K64 : Nat → Int32 → Int32 → Int32 → Int32 → Int32 → MS → Option (Int32 × MS)} (hK49 : ∀ (x0 : Nat) (x1 : Int32) (x2 : Int32) (x4 : Int32) (x5 : Int32) (S : MS) (H : Heap) (locs : List Loc) (ls : Array Slot), (x0 < shX.1 ∧ shX.2.1 x0 = 10) → mW G shX L S A s H locs → lv_has ls 7 [(0, .ref (ad L x0)), (1, .int x1), (2, .int x2), (4, .int x4), (5, .int x5)] → K49 x0 x1 x2 x4 x5 S = some q → W p l e (rmd (6)) s m av below meth c H locs 0 0 (MQ below (mQ G shX L q.2 (some (.int q.1)) A) av s 0 0 A) (F0 m 49 ls [])) (hK64 : ∀ (x0 : Nat) (x1 : Int32) (x2 : Int32) (x4 : Int32) (x5 : Int32) (x6 : Int32) (S : MS) (H : Heap) (locs : List Loc) (ls : Array Slot), (x0 < shX.1 ∧ shX.2.1 x0 = 10) → mW G shX L S A s H locs → lv_has ls 7 [(0, .ref (ad L x0)), (1, .int x1), (2, .int x2), (4, .int x4), (5, .int x5), (6, .int x6)] → K64 x0 x1 x2 x4 x5 x6 S = some q → W p l e (rmd (6)) s m av below meth c H locs 0 0 (MQ below (mQ G shX L q.2 (some (.int q.1)) A) av s 0 0 A) (F0 m 64 ls [])) (C : mC p s m av meth c cX10_cast RX10 7 (some .int)) : ∀ (x0 : Nat) (x1 : Int32) (x2 : Int32) (x4 : Int32) (x5 : Int32) (x6 : Int32) (S : MS) (H : Heap) (locs : List Loc) (ls : Array Slot), (x0 < shX.1 ∧ shX.2.1 x0 = 10) → mW G shX L S A s H locs → lv_has ls 7 [(0, .ref (ad L x0)), (1, .int x1), (2, .int x2), (4, .int x4), (5, .int x5), (6, .int x6)] → fX10_cast_121 K49 K64 x0 x1 x2 x4 x5 x6 S = some q → W p l e (rmd (6)) s m av below meth c H locs 0 0 (MQ below (mQ G shX L q.2 (some (.int q.1)) A) av s 0 0 A) (F0 m 121 ls []) := by
  intro x0 x1 x2 x4 x5 x6 S H locs ls hx0 hW hl hf
  unfold fX10_cast_121 at hf
  refine lv_iinc (v := x6 + (1 : Int32)) (lv' := [(6, .int (x6 + (1 : Int32))), (0, .ref (ad L x0)), (1, .int x1), (2, .int x2), (4, .int x4), (5, .int x5)]) C.1 C.2.1 dX10_cast_121 hl (k := 5) rfl (congrArg (fun z => x6 + z) ic_1) (by decide) rfl (fun ls hl => ?_)
  refine lv_goto (tgt := 64) C.1 C.2.1 dX10_cast_124 rfl ?_
  exact hK64 x0 x1 x2 x4 x5 (x6 + (1 : Int32)) _ _ _ _ hx0 hW (lv_sub hl [1, 2, 3, 4, 5, 0] rfl) hf

set_option maxRecDepth 100000 in
theorem kX10_cast_64 {p : Program} {l : Launch} {e : Env} {s : State} {m : MethodId} {av : Array Value} {below : List Frame} {meth : Method} {c : Code} {A : Nat → Prop} {G : Gv} {L : List Nat} {q : (Int32 × MS)} {K49 : Nat → Int32 → Int32 → Int32 → Int32 → MS → Option (Int32 × MS)} (hK49 : ∀ (x0 : Nat) (x1 : Int32) (x2 : Int32) (x4 : Int32) (x5 : Int32) (S : MS) (H : Heap) (locs : List Loc) (ls : Array Slot), (x0 < shX.1 ∧ shX.2.1 x0 = 10) → mW G shX L S A s H locs → lv_has ls 7 [(0, .ref (ad L x0)), (1, .int x1), (2, .int x2), (4, .int x4), (5, .int x5)] → K49 x0 x1 x2 x4 x5 S = some q → W p l e (rmd (6)) s m av below meth c H locs 0 0 (MQ below (mQ G shX L q.2 (some (.int q.1)) A) av s 0 0 A) (F0 m 49 ls [])) (C : mC p s m av meth c cX10_cast RX10 7 (some .int)) : ∀ (n : Nat) (x0 : Nat) (x1 : Int32) (x2 : Int32) (x4 : Int32) (x5 : Int32) (x6 : Int32) (S : MS) (H : Heap) (locs : List Loc) (ls : Array Slot), (x0 < shX.1 ∧ shX.2.1 x0 = 10) → mW G shX L S A s H locs → lv_has ls 7 [(0, .ref (ad L x0)), (1, .int x1), (2, .int x2), (4, .int x4), (5, .int x5), (6, .int x6)] → fX10_cast_64 K49 n x0 x1 x2 x4 x5 x6 S = some q → W p l e (rmd (6)) s m av below meth c H locs 0 0 (MQ below (mQ G shX L q.2 (some (.int q.1)) A) av s 0 0 A) (F0 m 64 ls []) := by
  intro n
  induction n with
  | zero =>
    intro x0 x1 x2 x4 x5 x6 S H locs ls hx0 hW hl hf
    rw [fX10_cast_64] at hf
    cases hf
  | succ n ih =>
    intro x0 x1 x2 x4 x5 x6 S H locs ls hx0 hW hl hf
    rw [fX10_cast_64] at hf
    refine lv_iload C.1 C.2.1 dX10_cast_64 (lv_at hl 5 rfl) ?_
    refine lv_aload_n C.1 C.2.1 dX10_cast_66 rfl (lv_at hl 0 rfl) ?_
    refine m_getr C hW hx0 flX10_16 (by decide) dX10_cast_67 (fun hk1 => ?_)
    refine m_geti C hW hk1 flX10_296 dX10_cast_70 ?_
    refine lv_icmp_ge (tgt := 127) C.1 C.2.1 dX10_cast_73 rfl (fun c2 => ?_) (fun c2 => ?_)
    · have hf := (if_pos c2).symm.trans hf
      refine lv_iinc (v := x5 + (1 : Int32)) (lv' := [(5, .int (x5 + (1 : Int32))), (0, .ref (ad L x0)), (1, .int x1), (2, .int x2), (4, .int x4), (6, .int x6)]) C.1 C.2.1 dX10_cast_127 hl (k := 4) rfl (congrArg (fun z => x5 + z) ic_1) (by decide) rfl (fun ls hl => ?_)
      refine lv_goto (tgt := 49) C.1 C.2.1 dX10_cast_130 rfl ?_
      exact hK49 x0 x1 x2 x4 (x5 + (1 : Int32)) _ _ _ _ hx0 hW (lv_sub hl [1, 2, 3, 4, 0] rfl) hf
    · have hf := (if_neg c2).symm.trans hf
      refine lv_aload_n C.1 C.2.1 dX10_cast_76 rfl (lv_at hl 0 rfl) ?_
      refine m_getr C hW hx0 flX10_79 (by decide) dX10_cast_77 (fun hk3 => ?_)
      refine lv_iload C.1 C.2.1 dX10_cast_80 (lv_at hl 4 rfl) ?_
      refine m_puti C hW hk3 fpX10_161 dX10_cast_82 (fun H locs hW => ?_)
      refine lv_aload_n C.1 C.2.1 dX10_cast_85 rfl (lv_at hl 0 rfl) ?_
      refine m_getr C hW hx0 flX10_79 (by decide) dX10_cast_86 (fun hk4 => ?_)
      refine lv_iload C.1 C.2.1 dX10_cast_89 (lv_at hl 5 rfl) ?_
      refine m_puti C hW hk4 fpX10_164 dX10_cast_91 (fun H locs hW => ?_)
      refine lv_aload_n C.1 C.2.1 dX10_cast_94 rfl (lv_at hl 0 rfl) ?_
      refine m_getr C hW hx0 flX10_16 (by decide) dX10_cast_95 (fun hk5 => ?_)
      refine lv_iload C.1 C.2.1 dX10_cast_98 (lv_at hl 4 rfl) ?_
      refine lv_iload C.1 C.2.1 dX10_cast_100 (lv_at hl 5 rfl) ?_
      obtain ⟨q6, h7, hf⟩ := bd hf
      refine m_callV (As := [.int x5, .int x6]) (rest := []) C hW hk5 (cX8_isWall_ok  hk5 h7) mlX10_225 (by decide) rfl hl.1 rfl (Nat.le_of_ble_eq_true rfl) (Nat.le_of_ble_eq_true rfl) (Nat.le_of_ble_eq_true rfl) dX10_cast_102 (fun H locs hW => ?_)
      refine lv_if_ne (tgt := 121) C.1 C.2.1 dX10_cast_105 rfl (fun c8 => ?_) (fun c8 => ?_)
      · have hf := (if_neg c8).symm.trans hf
        exact kX10_cast_121 hK49 ih C x0 x1 x2 x4 x5 x6 _ _ _ _ hx0 hW (lv_sub hl [0, 1, 2, 3, 4, 5] rfl) hf
      · have hf := (if_pos c8).symm.trans hf
        refine lv_aload_n C.1 C.2.1 dX10_cast_108 rfl (lv_at hl 0 rfl) ?_
        refine lv_iload_n C.1 C.2.1 dX10_cast_109 rfl (lv_at hl 1 rfl) ?_
        refine lv_iload_n C.1 C.2.1 dX10_cast_110 rfl (lv_at hl 2 rfl) ?_
        refine lv_iconst C.1 C.2.1 dX10_cast_111 ic_0 ?_
        obtain ⟨q9, h10, hf⟩ := bd hf
        refine m_callV (As := [.int x1, .int x2, .int (0 : Int32)]) (rest := []) C hW hx0 (cX10_fallsOn_ok  hx0 h10) mlX10_299 (by decide) rfl hl.1 rfl (Nat.le_of_ble_eq_true rfl) (Nat.le_of_ble_eq_true rfl) (Nat.le_of_ble_eq_true rfl) dX10_cast_112 (fun H locs hW => ?_)
        refine lv_if_eq (tgt := 121) C.1 C.2.1 dX10_cast_115 rfl (fun c11 => ?_) (fun c11 => ?_)
        · have hf := (if_pos c11).symm.trans hf
          exact kX10_cast_121 hK49 ih C x0 x1 x2 x4 x5 x6 _ _ _ _ hx0 hW (lv_sub hl [0, 1, 2, 3, 4, 5] rfl) hf
        · have hf := (if_neg c11).symm.trans hf
          refine lv_iinc (v := x4 + (1 : Int32)) (lv' := [(4, .int (x4 + (1 : Int32))), (0, .ref (ad L x0)), (1, .int x1), (2, .int x2), (5, .int x5), (6, .int x6)]) C.1 C.2.1 dX10_cast_118 hl (k := 3) rfl (congrArg (fun z => x4 + z) ic_1) (by decide) rfl (fun ls hl => ?_)
          exact kX10_cast_121 hK49 ih C x0 x1 x2 (x4 + (1 : Int32)) x5 x6 _ _ _ _ hx0 hW (lv_sub hl [1, 2, 3, 0, 4, 5] rfl) hf

set_option maxRecDepth 100000 in
theorem kX10_cast_49 {p : Program} {l : Launch} {e : Env} {s : State} {m : MethodId} {av : Array Value} {below : List Frame} {meth : Method} {c : Code} {A : Nat → Prop} {G : Gv} {L : List Nat} {q : (Int32 × MS)}  (C : mC p s m av meth c cX10_cast RX10 7 (some .int)) : ∀ (n : Nat) (x0 : Nat) (x1 : Int32) (x2 : Int32) (x4 : Int32) (x5 : Int32) (S : MS) (H : Heap) (locs : List Loc) (ls : Array Slot), (x0 < shX.1 ∧ shX.2.1 x0 = 10) → mW G shX L S A s H locs → lv_has ls 7 [(0, .ref (ad L x0)), (1, .int x1), (2, .int x2), (4, .int x4), (5, .int x5)] → fX10_cast_49  n x0 x1 x2 x4 x5 S = some q → W p l e (rmd (6)) s m av below meth c H locs 0 0 (MQ below (mQ G shX L q.2 (some (.int q.1)) A) av s 0 0 A) (F0 m 49 ls []) := by
  intro n
  induction n with
  | zero =>
    intro x0 x1 x2 x4 x5 S H locs ls hx0 hW hl hf
    rw [fX10_cast_49] at hf
    cases hf
  | succ n ih =>
    intro x0 x1 x2 x4 x5 S H locs ls hx0 hW hl hf
    rw [fX10_cast_49] at hf
    refine lv_iload C.1 C.2.1 dX10_cast_49 (lv_at hl 4 rfl) ?_
    refine lv_aload_n C.1 C.2.1 dX10_cast_51 rfl (lv_at hl 0 rfl) ?_
    refine m_getr C hW hx0 flX10_16 (by decide) dX10_cast_52 (fun hk12 => ?_)
    refine m_geti C hW hk12 flX10_293 dX10_cast_55 ?_
    refine lv_icmp_ge (tgt := 133) C.1 C.2.1 dX10_cast_58 rfl (fun c13 => ?_) (fun c13 => ?_)
    · have hf := (if_pos c13).symm.trans hf
      refine lv_iload C.1 C.2.1 dX10_cast_133 (lv_at hl 3 rfl) ?_
      cases hf
      exact m_iret C hW dX10_cast_135
    · have hf := (if_neg c13).symm.trans hf
      refine lv_iconst C.1 C.2.1 dX10_cast_61 ic_0 ?_
      refine lv_istore (lv' := [(6, .int (0 : Int32)), (0, .ref (ad L x0)), (1, .int x1), (2, .int x2), (4, .int x4), (5, .int x5)]) C.1 C.2.1 dX10_cast_62 hl (by decide) rfl (fun ls hl => ?_)
      exact kX10_cast_64 ih C 1000 x0 x1 x2 x4 x5 (0 : Int32) _ _ _ _ hx0 hW (lv_sub hl [1, 2, 3, 4, 5, 0] rfl) hf

set_option maxRecDepth 100000 in
theorem cX10_cast_ok {l : Launch} {G : Gv} {L : List Nat} {S : MS} {a0 : Nat} {a1 : Int32} {a2 : Int32} {a3 : Int32} {q : (Int32 × MS)} (ha0 : a0 < shX.1 ∧ shX.2.1 a0 = 10) (hf : fX10_cast a0 a1 a2 a3 S = some q) : Mt l yX10_cast cX10_cast 7 (some .int) (6) G shX L S [.ref (ad L a0), .int a1, .int a2, .int a3] (some (.int q.1)) q.2 := by
  refine m_enter (lv := [(0, .ref (ad L a0)), (1, .int a1), (2, .int a2), (3, .int a3)]) (plainFor_of_name (by decide)) (Nat.le_of_ble_eq_true rfl) rfl ?_
  intro p e s m below meth c A ls C hW hl
  unfold fX10_cast at hf
  refine lv_aload_n C.1 C.2.1 dX10_cast_0 rfl (lv_at hl 0 rfl) ?_
  refine m_getr C hW ha0 flX10_16 (by decide) dX10_cast_1 (fun hk14 => ?_)
  refine lv_iload_n C.1 C.2.1 dX10_cast_4 rfl (lv_at hl 1 rfl) ?_
  refine lv_iload_n C.1 C.2.1 dX10_cast_5 rfl (lv_at hl 2 rfl) ?_
  obtain ⟨q15, h16, hf⟩ := bd hf
  refine m_callV (As := [.int a1, .int a2]) (rest := []) C hW hk14 (cX8_isCell_ok  hk14 h16) mlX10_221 (by decide) rfl hl.1 rfl (Nat.le_of_ble_eq_true rfl) (Nat.le_of_ble_eq_true rfl) (Nat.le_of_ble_eq_true rfl) dX10_cast_6 (fun H locs hW => ?_)
  refine lv_if_eq (tgt := 22) C.1 C.2.1 dX10_cast_9 rfl (fun c17 => ?_) (fun c17 => ?_)
  · have hf := (if_pos c17).symm.trans hf
    refine lv_iconst C.1 C.2.1 dX10_cast_22 ic_m1 ?_
    cases hf
    exact m_iret C hW dX10_cast_23
  · have hf := (if_neg c17).symm.trans hf
    refine lv_iload_n C.1 C.2.1 dX10_cast_12 rfl (lv_at hl 3 rfl) ?_
    refine lv_if_lt (tgt := 22) C.1 C.2.1 dX10_cast_13 rfl (fun c18 => ?_) (fun c18 => ?_)
    · have hf := (if_pos c18).symm.trans hf
      refine lv_iconst C.1 C.2.1 dX10_cast_22 ic_m1 ?_
      cases hf
      exact m_iret C hW dX10_cast_23
    · have hf := (if_neg c18).symm.trans hf
      refine lv_iload_n C.1 C.2.1 dX10_cast_16 rfl (lv_at hl 3 rfl) ?_
      refine lv_bipush C.1 C.2.1 dX10_cast_17 bp_24 ?_
      refine lv_icmp_lt (tgt := 24) C.1 C.2.1 dX10_cast_19 rfl (fun c19 => ?_) (fun c19 => ?_)
      · have hf := (if_pos c19).symm.trans hf
        refine lv_aload_n C.1 C.2.1 dX10_cast_24 rfl (lv_at hl 0 rfl) ?_
        refine m_getr C hW ha0 flX10_79 (by decide) dX10_cast_25 (fun hk20 => ?_)
        refine lv_aload_n C.1 C.2.1 dX10_cast_28 rfl (lv_at hl 0 rfl) ?_
        refine m_getr C hW ha0 flX10_72 (by decide) dX10_cast_29 (fun hk21 => ?_)
        obtain ⟨q22, h23, hf⟩ := bd hf
        refine m_callV (As := [.ref (ad L (gR S a0 9))]) (rest := []) C hW hk20 (cX9_become_ok  hk20 hk21 h23) mlX10_264 (by decide) rfl hl.1 rfl (Nat.le_of_ble_eq_true rfl) (Nat.le_of_ble_eq_true rfl) (Nat.le_of_ble_eq_true rfl) dX10_cast_32 (fun H locs hW => ?_)
        refine lv_aload_n C.1 C.2.1 dX10_cast_35 rfl (lv_at hl 0 rfl) ?_
        refine m_getr C hW ha0 flX10_79 (by decide) dX10_cast_36 (fun hk24 => ?_)
        refine lv_iload_n C.1 C.2.1 dX10_cast_39 rfl (lv_at hl 3 rfl) ?_
        refine m_puti C hW hk24 fpX10_258 dX10_cast_40 (fun H locs hW => ?_)
        refine lv_iconst C.1 C.2.1 dX10_cast_43 ic_0 ?_
        refine lv_istore (lv' := [(4, .int (0 : Int32)), (0, .ref (ad L a0)), (1, .int a1), (2, .int a2), (3, .int a3)]) C.1 C.2.1 dX10_cast_44 hl (by decide) rfl (fun ls hl => ?_)
        refine lv_iconst C.1 C.2.1 dX10_cast_46 ic_0 ?_
        refine lv_istore (lv' := [(5, .int (0 : Int32)), (4, .int (0 : Int32)), (0, .ref (ad L a0)), (1, .int a1), (2, .int a2), (3, .int a3)]) C.1 C.2.1 dX10_cast_47 hl (by decide) rfl (fun ls hl => ?_)
        exact kX10_cast_49  C 1000 a0 a1 a2 (0 : Int32) (0 : Int32) _ _ _ _ ha0 hW (lv_sub hl [2, 3, 4, 1, 0] rfl) hf
      · have hf := (if_neg c19).symm.trans hf
        refine lv_iconst C.1 C.2.1 dX10_cast_22 ic_m1 ?_
        cases hf
        exact m_iret C hW dX10_cast_23

def fX10_isHome_24  : Nat → Nat → Int32 → Int32 → MS → Option (Int32 × MS)
  | 0, _, _, _, _ => none
  | n + 1, x0, x3, x4, S => (if x3 < x4 then some ((1 : Int32), S) else (fX0_pass  (gR S x0 4) (gR S x0 11) (0 : Int32) S).bind fun q4 => (fX6_agrees  (gR q4 x0 8) x4 (gR q4 x0 11) q4).bind fun q8 => (if q8 = (0 : Int32) then some ((0 : Int32), q4) else (fX10_isHome_24  n) x0 x3 (x4 + (1 : Int32)) q4))
def fX10_isHome (a0 : Nat) (a1 : Int32) (a2 : Int32) (S : MS) : Option (Int32 × MS) := (fX9_begin  (gR S a0 11) (gR S a0 1) a1 a2 S).bind fun q13 => (fX6_lastHour  (gR q13 a0 8) q13).bind fun q16 => fX10_isHome_24  1000 a0 q16 (1 : Int32) q13
set_option maxRecDepth 100000 in
theorem kX10_isHome_24 {p : Program} {l : Launch} {e : Env} {s : State} {m : MethodId} {av : Array Value} {below : List Frame} {meth : Method} {c : Code} {A : Nat → Prop} {G : Gv} {L : List Nat} {q : (Int32 × MS)}  (C : mC p s m av meth c cX10_isHome RX10 5 (some .boolean)) : ∀ (n : Nat) (x0 : Nat) (x3 : Int32) (x4 : Int32) (S : MS) (H : Heap) (locs : List Loc) (ls : Array Slot), (x0 < shX.1 ∧ shX.2.1 x0 = 10) → mW G shX L S A s H locs → lv_has ls 5 [(0, .ref (ad L x0)), (3, .int x3), (4, .int x4)] → fX10_isHome_24  n x0 x3 x4 S = some q → W p l e (rmd (6)) s m av below meth c H locs 0 0 (MQ below (mQ G shX L q.2 (some (.int q.1)) A) av s 0 0 A) (F0 m 24 ls []) := by
  intro n
  induction n with
  | zero =>
    intro x0 x3 x4 S H locs ls hx0 hW hl hf
    rw [fX10_isHome_24] at hf
    cases hf
  | succ n ih =>
    intro x0 x3 x4 S H locs ls hx0 hW hl hf
    rw [fX10_isHome_24] at hf
    refine lv_iload C.1 C.2.1 dX10_isHome_24 (lv_at hl 2 rfl) ?_
    refine lv_iload_n C.1 C.2.1 dX10_isHome_26 rfl (lv_at hl 1 rfl) ?_
    refine lv_icmp_gt (tgt := 66) C.1 C.2.1 dX10_isHome_27 rfl (fun c1 => ?_) (fun c1 => ?_)
    · have hf := (if_pos c1).symm.trans hf
      refine lv_iconst C.1 C.2.1 dX10_isHome_66 ic_1 ?_
      cases hf
      exact m_zret C hW rfl dX10_isHome_67
    · have hf := (if_neg c1).symm.trans hf
      refine lv_aload_n C.1 C.2.1 dX10_isHome_30 rfl (lv_at hl 0 rfl) ?_
      refine m_getr C hW hx0 flX10_35 (by decide) dX10_isHome_31 (fun hk2 => ?_)
      refine lv_aload_n C.1 C.2.1 dX10_isHome_34 rfl (lv_at hl 0 rfl) ?_
      refine m_getr C hW hx0 flX10_79 (by decide) dX10_isHome_35 (fun hk3 => ?_)
      refine lv_iconst C.1 C.2.1 dX10_isHome_38 ic_0 ?_
      obtain ⟨q4, h5, hf⟩ := bd hf
      refine m_callV (As := [.ref (ad L (gR S x0 11)), .int (0 : Int32)]) (rest := []) C hW hk2 (cX0_pass_ok  hk2 hk3 h5) mlX10_285 (by decide) rfl hl.1 rfl (Nat.le_of_ble_eq_true rfl) (Nat.le_of_ble_eq_true rfl) (Nat.le_of_ble_eq_true rfl) dX10_isHome_39 (fun H locs hW => ?_)
      refine lv_aload_n C.1 C.2.1 dX10_isHome_42 rfl (lv_at hl 0 rfl) ?_
      refine m_getr C hW hx0 flX10_65 (by decide) dX10_isHome_43 (fun hk6 => ?_)
      refine lv_iload C.1 C.2.1 dX10_isHome_46 (lv_at hl 2 rfl) ?_
      refine lv_aload_n C.1 C.2.1 dX10_isHome_48 rfl (lv_at hl 0 rfl) ?_
      refine m_getr C hW hx0 flX10_79 (by decide) dX10_isHome_49 (fun hk7 => ?_)
      obtain ⟨q8, h9, hf⟩ := bd hf
      refine m_callV (As := [.int x4, .ref (ad L (gR q4 x0 11))]) (rest := []) C hW hk6 (cX6_agrees_ok  hk6 hk7 h9) mlX10_354 (by decide) rfl hl.1 rfl (Nat.le_of_ble_eq_true rfl) (Nat.le_of_ble_eq_true rfl) (Nat.le_of_ble_eq_true rfl) dX10_isHome_52 (fun H locs hW => ?_)
      refine lv_if_ne (tgt := 60) C.1 C.2.1 dX10_isHome_55 rfl (fun c10 => ?_) (fun c10 => ?_)
      · have hf := (if_neg c10).symm.trans hf
        refine lv_iinc (v := x4 + (1 : Int32)) (lv' := [(4, .int (x4 + (1 : Int32))), (0, .ref (ad L x0)), (3, .int x3)]) C.1 C.2.1 dX10_isHome_60 hl (k := 2) rfl (congrArg (fun z => x4 + z) ic_1) (by decide) rfl (fun ls hl => ?_)
        refine lv_goto (tgt := 24) C.1 C.2.1 dX10_isHome_63 rfl ?_
        exact ih x0 x3 (x4 + (1 : Int32)) _ _ _ _ hx0 hW (lv_sub hl [1, 2, 0] rfl) hf
      · have hf := (if_pos c10).symm.trans hf
        refine lv_iconst C.1 C.2.1 dX10_isHome_58 ic_0 ?_
        cases hf
        exact m_zret C hW rfl dX10_isHome_59

set_option maxRecDepth 100000 in
theorem cX10_isHome_ok {l : Launch} {G : Gv} {L : List Nat} {S : MS} {a0 : Nat} {a1 : Int32} {a2 : Int32} {q : (Int32 × MS)} (ha0 : a0 < shX.1 ∧ shX.2.1 a0 = 10) (hf : fX10_isHome a0 a1 a2 S = some q) : Mt l yX10_isHome cX10_isHome 5 (some .boolean) (6) G shX L S [.ref (ad L a0), .int a1, .int a2] (some (.int q.1)) q.2 := by
  refine m_enter (lv := [(0, .ref (ad L a0)), (1, .int a1), (2, .int a2)]) (plainFor_of_name (by decide)) (Nat.le_of_ble_eq_true rfl) rfl ?_
  intro p e s m below meth c A ls C hW hl
  unfold fX10_isHome at hf
  refine lv_aload_n C.1 C.2.1 dX10_isHome_0 rfl (lv_at hl 0 rfl) ?_
  refine m_getr C hW ha0 flX10_79 (by decide) dX10_isHome_1 (fun hk11 => ?_)
  refine lv_aload_n C.1 C.2.1 dX10_isHome_4 rfl (lv_at hl 0 rfl) ?_
  refine m_getr C hW ha0 flX10_16 (by decide) dX10_isHome_5 (fun hk12 => ?_)
  refine lv_iload_n C.1 C.2.1 dX10_isHome_8 rfl (lv_at hl 1 rfl) ?_
  refine lv_iload_n C.1 C.2.1 dX10_isHome_9 rfl (lv_at hl 2 rfl) ?_
  obtain ⟨q13, h14, hf⟩ := bd hf
  refine m_callV (As := [.ref (ad L (gR S a0 1)), .int a1, .int a2]) (rest := []) C hW hk11 (cX9_begin_ok  hk11 hk12 h14) mlX10_130 (by decide) rfl hl.1 rfl (Nat.le_of_ble_eq_true rfl) (Nat.le_of_ble_eq_true rfl) (Nat.le_of_ble_eq_true rfl) dX10_isHome_10 (fun H locs hW => ?_)
  refine lv_aload_n C.1 C.2.1 dX10_isHome_13 rfl (lv_at hl 0 rfl) ?_
  refine m_getr C hW ha0 flX10_65 (by decide) dX10_isHome_14 (fun hk15 => ?_)
  obtain ⟨q16, h17, hf⟩ := bd hf
  refine m_callV (As := []) (rest := []) C hW hk15 (cX6_lastHour_ok  hk15 h17) mlX10_351 (by decide) rfl hl.1 rfl (Nat.le_of_ble_eq_true rfl) (Nat.le_of_ble_eq_true rfl) (Nat.le_of_ble_eq_true rfl) dX10_isHome_17 (fun H locs hW => ?_)
  refine lv_istore_n (lv' := [(3, .int q16), (0, .ref (ad L a0)), (1, .int a1), (2, .int a2)]) C.1 C.2.1 dX10_isHome_20 rfl hl (by decide) rfl (fun ls hl => ?_)
  refine lv_iconst C.1 C.2.1 dX10_isHome_21 ic_1 ?_
  refine lv_istore (lv' := [(4, .int (1 : Int32)), (3, .int q16), (0, .ref (ad L a0)), (1, .int a1), (2, .int a2)]) C.1 C.2.1 dX10_isHome_22 hl (by decide) rfl (fun ls hl => ?_)
  exact kX10_isHome_24  C 1000 a0 q16 (1 : Int32) _ _ _ _ ha0 hW (lv_sub hl [2, 1, 0] rfl) hf

def fX0_passAll_3  : Nat → Nat → Nat → Int32 → Int32 → Int32 → MS → Option MS
  | 0, _, _, _, _, _, _ => none
  | n + 1, x0, x1, x2, x3, x4, S => (if x2 ≤ x4 then some S else (fX0_pass  x0 x1 x3 S).bind fun q2 => (fX0_passAll_3  n) x0 x1 x2 x3 (x4 + (1 : Int32)) q2)
def fX0_passAll (a0 : Nat) (a1 : Nat) (a2 : Int32) (a3 : Int32) (S : MS) : Option MS := fX0_passAll_3  1000 a0 a1 a2 a3 (0 : Int32) S
set_option maxRecDepth 100000 in
theorem kX0_passAll_3 {p : Program} {l : Launch} {e : Env} {s : State} {m : MethodId} {av : Array Value} {below : List Frame} {meth : Method} {c : Code} {A : Nat → Prop} {G : Gv} {L : List Nat} {q : MS}  (C : mC p s m av meth c cX0_passAll RX0 5 none) : ∀ (n : Nat) (x0 : Nat) (x1 : Nat) (x2 : Int32) (x3 : Int32) (x4 : Int32) (S : MS) (H : Heap) (locs : List Loc) (ls : Array Slot), (x0 < shX.1 ∧ shX.2.1 x0 = 0) → (x1 < shX.1 ∧ shX.2.1 x1 = 9) → mW G shX L S A s H locs → lv_has ls 5 [(0, .ref (ad L x0)), (1, .ref (ad L x1)), (2, .int x2), (3, .int x3), (4, .int x4)] → fX0_passAll_3  n x0 x1 x2 x3 x4 S = some q → W p l e (rmd (6)) s m av below meth c H locs 0 0 (MQ below (mQ G shX L q none A) av s 0 0 A) (F0 m 3 ls []) := by
  intro n
  induction n with
  | zero =>
    intro x0 x1 x2 x3 x4 S H locs ls hx0 hx1 hW hl hf
    rw [fX0_passAll_3] at hf
    cases hf
  | succ n ih =>
    intro x0 x1 x2 x3 x4 S H locs ls hx0 hx1 hW hl hf
    rw [fX0_passAll_3] at hf
    refine lv_iload C.1 C.2.1 dX0_passAll_3 (lv_at hl 4 rfl) ?_
    refine lv_iload_n C.1 C.2.1 dX0_passAll_5 rfl (lv_at hl 2 rfl) ?_
    refine lv_icmp_ge (tgt := 21) C.1 C.2.1 dX0_passAll_6 rfl (fun c1 => ?_) (fun c1 => ?_)
    · have hf := (if_pos c1).symm.trans hf
      cases hf
      exact m_vret C hW dX0_passAll_21
    · have hf := (if_neg c1).symm.trans hf
      refine lv_aload_n C.1 C.2.1 dX0_passAll_9 rfl (lv_at hl 0 rfl) ?_
      refine lv_aload_n C.1 C.2.1 dX0_passAll_10 rfl (lv_at hl 1 rfl) ?_
      refine lv_iload_n C.1 C.2.1 dX0_passAll_11 rfl (lv_at hl 3 rfl) ?_
      obtain ⟨q2, h3, hf⟩ := bd hf
      refine m_callV (As := [.ref (ad L x1), .int x3]) (rest := []) C hW hx0 (cX0_pass_ok  hx0 hx1 h3) mlX0_19 (by decide) rfl hl.1 rfl (Nat.le_of_ble_eq_true rfl) (Nat.le_of_ble_eq_true rfl) (Nat.le_of_ble_eq_true rfl) dX0_passAll_12 (fun H locs hW => ?_)
      refine lv_iinc (v := x4 + (1 : Int32)) (lv' := [(4, .int (x4 + (1 : Int32))), (0, .ref (ad L x0)), (1, .ref (ad L x1)), (2, .int x2), (3, .int x3)]) C.1 C.2.1 dX0_passAll_15 hl (k := 4) rfl (congrArg (fun z => x4 + z) ic_1) (by decide) rfl (fun ls hl => ?_)
      refine lv_goto (tgt := 3) C.1 C.2.1 dX0_passAll_18 rfl ?_
      exact ih x0 x1 x2 x3 (x4 + (1 : Int32)) _ _ _ _ hx0 hx1 hW (lv_sub hl [1, 2, 3, 4, 0] rfl) hf

set_option maxRecDepth 100000 in
theorem cX0_passAll_ok {l : Launch} {G : Gv} {L : List Nat} {S : MS} {a0 : Nat} {a1 : Nat} {a2 : Int32} {a3 : Int32} {q : MS} (ha0 : a0 < shX.1 ∧ shX.2.1 a0 = 0) (ha1 : a1 < shX.1 ∧ shX.2.1 a1 = 9) (hf : fX0_passAll a0 a1 a2 a3 S = some q) : Mt l yX0_passAll cX0_passAll 5 none (6) G shX L S [.ref (ad L a0), .ref (ad L a1), .int a2, .int a3] none q := by
  refine m_enter (lv := [(0, .ref (ad L a0)), (1, .ref (ad L a1)), (2, .int a2), (3, .int a3)]) (plainFor_of_name (by decide)) (Nat.le_of_ble_eq_true rfl) rfl ?_
  intro p e s m below meth c A ls C hW hl
  unfold fX0_passAll at hf
  refine lv_iconst C.1 C.2.1 dX0_passAll_0 ic_0 ?_
  refine lv_istore (lv' := [(4, .int (0 : Int32)), (0, .ref (ad L a0)), (1, .ref (ad L a1)), (2, .int a2), (3, .int a3)]) C.1 C.2.1 dX0_passAll_1 hl (by decide) rfl (fun ls hl => ?_)
  exact kX0_passAll_3  C 1000 a0 a1 a2 a3 (0 : Int32) _ _ _ _ ha0 ha1 hW (lv_sub hl [1, 2, 3, 4, 0] rfl) hf

