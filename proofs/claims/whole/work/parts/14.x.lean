def fX5_readRoom_16  (x0 : Nat) (S : MS) : Option MS := (fX5_next  x0 S).bind fun q1 => (fX5_number  x0 (1 : Int32) (8 : Int32) q1).bind fun q4 => (fX5_number  x0 (1 : Int32) (8 : Int32) (pI q4.2 (gR q1 x0 9) 8 q4.1)).bind fun q7 => some (pI q7.2 (gR (pI q4.2 (gR q1 x0 9) 8 q4.1) x0 9) 9 q7.1)
def fX5_readRoom (a0 : Nat) (S : MS) : Option MS := (if (gI S a0 18) ≤ (0 : Int32) then fX5_readRoom_16  a0 S else (fX5_fail  a0 (1 : Int32) (gI S a0 7) S).bind fun q10 => fX5_readRoom_16  a0 q10)
set_option maxRecDepth 100000 in
theorem kX5_readRoom_16 {p : Program} {l : Launch} {e : Env} {s : State} {m : MethodId} {av : Array Value} {below : List Frame} {meth : Method} {c : Code} {A : Nat → Prop} {G : Gv} {L : List Nat} {q : MS}  (C : mC p s m av meth c cX5_readRoom RX5 1 none) : ∀ (x0 : Nat) (S : MS) (H : Heap) (locs : List Loc) (ls : Array Slot), (x0 < shX.1 ∧ shX.2.1 x0 = 5) → mW G shX L S A s H locs → lv_has ls 1 [(0, .ref (ad L x0))] → fX5_readRoom_16  x0 S = some q → W p l e (rmd (5)) s m av below meth c H locs 0 0 (MQ below (mQ G shX L q none A) av s 0 0 A) (F0 m 16 ls []) := by
  intro x0 S H locs ls hx0 hW hl hf
  unfold fX5_readRoom_16 at hf
  refine lv_aload_n C.1 C.2.1 dX5_readRoom_16 rfl (lv_at hl 0 rfl) ?_
  obtain ⟨q1, h2, hf⟩ := bd hf
  refine m_callV (As := []) (rest := []) C hW hx0 (cX5_next_ok  hx0 h2) mlX5_87 (by decide) rfl hl.1 rfl (Nat.le_of_ble_eq_true rfl) (Nat.le_of_ble_eq_true rfl) (Nat.le_of_ble_eq_true rfl) dX5_readRoom_17 (fun H locs hW => ?_)
  refine lv_aload_n C.1 C.2.1 dX5_readRoom_20 rfl (lv_at hl 0 rfl) ?_
  refine m_getr C hW hx0 flX5_24 (by decide) dX5_readRoom_21 (fun hk3 => ?_)
  refine lv_aload_n C.1 C.2.1 dX5_readRoom_24 rfl (lv_at hl 0 rfl) ?_
  refine lv_iconst C.1 C.2.1 dX5_readRoom_25 ic_1 ?_
  refine lv_bipush C.1 C.2.1 dX5_readRoom_26 bp_8 ?_
  obtain ⟨q4, h5, hf⟩ := bd hf
  refine m_callV (As := [.int (1 : Int32), .int (8 : Int32)]) (rest := [.ref (ad L (gR q1 x0 9))]) C hW hx0 (cX5_number_ok  hx0 h5) mlX5_134 (by decide) rfl hl.1 rfl (Nat.le_of_ble_eq_true rfl) (Nat.le_of_ble_eq_true rfl) (Nat.le_of_ble_eq_true rfl) dX5_readRoom_28 (fun H locs hW => ?_)
  refine m_puti C hW hk3 fpX5_137 dX5_readRoom_31 (fun H locs hW => ?_)
  refine lv_aload_n C.1 C.2.1 dX5_readRoom_34 rfl (lv_at hl 0 rfl) ?_
  refine m_getr C hW hx0 flX5_24 (by decide) dX5_readRoom_35 (fun hk6 => ?_)
  refine lv_aload_n C.1 C.2.1 dX5_readRoom_38 rfl (lv_at hl 0 rfl) ?_
  refine lv_iconst C.1 C.2.1 dX5_readRoom_39 ic_1 ?_
  refine lv_bipush C.1 C.2.1 dX5_readRoom_40 bp_8 ?_
  obtain ⟨q7, h8, hf⟩ := bd hf
  refine m_callV (As := [.int (1 : Int32), .int (8 : Int32)]) (rest := [.ref (ad L (gR (pI q4.2 (gR q1 x0 9) 8 q4.1) x0 9))]) C hW hx0 (cX5_number_ok  hx0 h8) mlX5_134 (by decide) rfl hl.1 rfl (Nat.le_of_ble_eq_true rfl) (Nat.le_of_ble_eq_true rfl) (Nat.le_of_ble_eq_true rfl) dX5_readRoom_42 (fun H locs hW => ?_)
  refine m_puti C hW hk6 fpX5_140 dX5_readRoom_45 (fun H locs hW => ?_)
  cases hf
  exact m_vret C hW dX5_readRoom_48

set_option maxRecDepth 100000 in
theorem cX5_readRoom_ok {l : Launch} {G : Gv} {L : List Nat} {S : MS} {a0 : Nat} {q : MS} (ha0 : a0 < shX.1 ∧ shX.2.1 a0 = 5) (hf : fX5_readRoom a0 S = some q) : Mt l yX5_readRoom cX5_readRoom 1 none (5) G shX L S [.ref (ad L a0)] none q := by
  refine m_enter (lv := [(0, .ref (ad L a0))]) (plainFor_of_name (by decide)) (Nat.le_of_ble_eq_true rfl) rfl ?_
  intro p e s m below meth c A ls C hW hl
  unfold fX5_readRoom at hf
  refine lv_aload_n C.1 C.2.1 dX5_readRoom_0 rfl (lv_at hl 0 rfl) ?_
  refine m_geti C hW ha0 flX5_84 dX5_readRoom_1 ?_
  refine lv_if_le (tgt := 16) C.1 C.2.1 dX5_readRoom_4 rfl (fun c9 => ?_) (fun c9 => ?_)
  · have hf := (if_pos c9).symm.trans hf
    exact kX5_readRoom_16  C a0 _ _ _ _ ha0 hW (lv_sub hl [0] rfl) hf
  · have hf := (if_neg c9).symm.trans hf
    refine lv_aload_n C.1 C.2.1 dX5_readRoom_7 rfl (lv_at hl 0 rfl) ?_
    refine lv_iconst C.1 C.2.1 dX5_readRoom_8 ic_1 ?_
    refine lv_aload_n C.1 C.2.1 dX5_readRoom_9 rfl (lv_at hl 0 rfl) ?_
    refine m_geti C hW ha0 flX5_62 dX5_readRoom_10 ?_
    obtain ⟨q10, h11, hf⟩ := bd hf
    refine m_callV (As := [.int (1 : Int32), .int (gI S a0 7)]) (rest := []) C hW ha0 (cX5_fail_ok  ha0 h11) mlX5_93 (by decide) rfl hl.1 rfl (Nat.le_of_ble_eq_true rfl) (Nat.le_of_ble_eq_true rfl) (Nat.le_of_ble_eq_true rfl) dX5_readRoom_13 (fun H locs hW => ?_)
    exact kX5_readRoom_16  C a0 _ _ _ _ ha0 hW (lv_sub hl [0] rfl) hf

def fX5_readHer_19  (x0 : Nat) (S : MS) : Option MS := (fX5_once  x0 (gI S x0 13) S).bind fun q1 => (fX5_number  x0 (0 : Int32) ((gI (pI q1 x0 13 (1 : Int32)) (gR (pI q1 x0 13 (1 : Int32)) x0 9) 8) - (1 : Int32)) (pI q1 x0 13 (1 : Int32))).bind fun q5 => (fX5_number  x0 (0 : Int32) ((gI (pI q5.2 (gR (pI q1 x0 13 (1 : Int32)) x0 9) 10 q5.1) (gR (pI q5.2 (gR (pI q1 x0 13 (1 : Int32)) x0 9) 10 q5.1) x0 9) 9) - (1 : Int32)) (pI q5.2 (gR (pI q1 x0 13 (1 : Int32)) x0 9) 10 q5.1)).bind fun q9 => some (pI q9.2 (gR (pI q5.2 (gR (pI q1 x0 13 (1 : Int32)) x0 9) 10 q5.1) x0 9) 11 q9.1)
def fX5_readHer (a0 : Nat) (S : MS) : Option MS := (if (gI S (gR S a0 9) 12) ≤ (0 : Int32) then fX5_readHer_19  a0 S else (fX5_fail  a0 (1 : Int32) (gI S a0 7) S).bind fun q13 => fX5_readHer_19  a0 q13)
set_option maxRecDepth 100000 in
theorem kX5_readHer_19 {p : Program} {l : Launch} {e : Env} {s : State} {m : MethodId} {av : Array Value} {below : List Frame} {meth : Method} {c : Code} {A : Nat → Prop} {G : Gv} {L : List Nat} {q : MS}  (C : mC p s m av meth c cX5_readHer RX5 1 none) : ∀ (x0 : Nat) (S : MS) (H : Heap) (locs : List Loc) (ls : Array Slot), (x0 < shX.1 ∧ shX.2.1 x0 = 5) → mW G shX L S A s H locs → lv_has ls 1 [(0, .ref (ad L x0))] → fX5_readHer_19  x0 S = some q → W p l e (rmd (5)) s m av below meth c H locs 0 0 (MQ below (mQ G shX L q none A) av s 0 0 A) (F0 m 19 ls []) := by
  intro x0 S H locs ls hx0 hW hl hf
  unfold fX5_readHer_19 at hf
  refine lv_aload_n C.1 C.2.1 dX5_readHer_19 rfl (lv_at hl 0 rfl) ?_
  refine lv_aload_n C.1 C.2.1 dX5_readHer_20 rfl (lv_at hl 0 rfl) ?_
  refine m_geti C hW hx0 flX5_68 dX5_readHer_21 ?_
  obtain ⟨q1, h2, hf⟩ := bd hf
  refine m_callV (As := [.int (gI S x0 13)]) (rest := []) C hW hx0 (cX5_once_ok  hx0 h2) mlX5_146 (by decide) rfl hl.1 rfl (Nat.le_of_ble_eq_true rfl) (Nat.le_of_ble_eq_true rfl) (Nat.le_of_ble_eq_true rfl) dX5_readHer_24 (fun H locs hW => ?_)
  refine lv_aload_n C.1 C.2.1 dX5_readHer_27 rfl (lv_at hl 0 rfl) ?_
  refine lv_iconst C.1 C.2.1 dX5_readHer_28 ic_1 ?_
  refine m_putz C hW hx0 fpX5_68 rfl dX5_readHer_29 (fun H locs hW => ?_)
  refine lv_aload_n C.1 C.2.1 dX5_readHer_32 rfl (lv_at hl 0 rfl) ?_
  refine m_getr C hW hx0 flX5_24 (by decide) dX5_readHer_33 (fun hk3 => ?_)
  refine lv_aload_n C.1 C.2.1 dX5_readHer_36 rfl (lv_at hl 0 rfl) ?_
  refine lv_iconst C.1 C.2.1 dX5_readHer_37 ic_0 ?_
  refine lv_aload_n C.1 C.2.1 dX5_readHer_38 rfl (lv_at hl 0 rfl) ?_
  refine m_getr C hW hx0 flX5_24 (by decide) dX5_readHer_39 (fun hk4 => ?_)
  refine m_geti C hW hk4 flX5_137 dX5_readHer_42 ?_
  refine lv_iconst C.1 C.2.1 dX5_readHer_45 ic_1 ?_
  refine lv_isub C.1 C.2.1 dX5_readHer_46 ?_
  obtain ⟨q5, h6, hf⟩ := bd hf
  refine m_callV (As := [.int (0 : Int32), .int ((gI (pI q1 x0 13 (1 : Int32)) (gR (pI q1 x0 13 (1 : Int32)) x0 9) 8) - (1 : Int32))]) (rest := [.ref (ad L (gR (pI q1 x0 13 (1 : Int32)) x0 9))]) C hW hx0 (cX5_number_ok  hx0 h6) mlX5_134 (by decide) rfl hl.1 rfl (Nat.le_of_ble_eq_true rfl) (Nat.le_of_ble_eq_true rfl) (Nat.le_of_ble_eq_true rfl) dX5_readHer_47 (fun H locs hW => ?_)
  refine m_puti C hW hk3 fpX5_150 dX5_readHer_50 (fun H locs hW => ?_)
  refine lv_aload_n C.1 C.2.1 dX5_readHer_53 rfl (lv_at hl 0 rfl) ?_
  refine m_getr C hW hx0 flX5_24 (by decide) dX5_readHer_54 (fun hk7 => ?_)
  refine lv_aload_n C.1 C.2.1 dX5_readHer_57 rfl (lv_at hl 0 rfl) ?_
  refine lv_iconst C.1 C.2.1 dX5_readHer_58 ic_0 ?_
  refine lv_aload_n C.1 C.2.1 dX5_readHer_59 rfl (lv_at hl 0 rfl) ?_
  refine m_getr C hW hx0 flX5_24 (by decide) dX5_readHer_60 (fun hk8 => ?_)
  refine m_geti C hW hk8 flX5_140 dX5_readHer_63 ?_
  refine lv_iconst C.1 C.2.1 dX5_readHer_66 ic_1 ?_
  refine lv_isub C.1 C.2.1 dX5_readHer_67 ?_
  obtain ⟨q9, h10, hf⟩ := bd hf
  refine m_callV (As := [.int (0 : Int32), .int ((gI (pI q5.2 (gR (pI q1 x0 13 (1 : Int32)) x0 9) 10 q5.1) (gR (pI q5.2 (gR (pI q1 x0 13 (1 : Int32)) x0 9) 10 q5.1) x0 9) 9) - (1 : Int32))]) (rest := [.ref (ad L (gR (pI q5.2 (gR (pI q1 x0 13 (1 : Int32)) x0 9) 10 q5.1) x0 9))]) C hW hx0 (cX5_number_ok  hx0 h10) mlX5_134 (by decide) rfl hl.1 rfl (Nat.le_of_ble_eq_true rfl) (Nat.le_of_ble_eq_true rfl) (Nat.le_of_ble_eq_true rfl) dX5_readHer_68 (fun H locs hW => ?_)
  refine m_puti C hW hk7 fpX5_153 dX5_readHer_71 (fun H locs hW => ?_)
  cases hf
  exact m_vret C hW dX5_readHer_74

set_option maxRecDepth 100000 in
theorem cX5_readHer_ok {l : Launch} {G : Gv} {L : List Nat} {S : MS} {a0 : Nat} {q : MS} (ha0 : a0 < shX.1 ∧ shX.2.1 a0 = 5) (hf : fX5_readHer a0 S = some q) : Mt l yX5_readHer cX5_readHer 1 none (5) G shX L S [.ref (ad L a0)] none q := by
  refine m_enter (lv := [(0, .ref (ad L a0))]) (plainFor_of_name (by decide)) (Nat.le_of_ble_eq_true rfl) rfl ?_
  intro p e s m below meth c A ls C hW hl
  unfold fX5_readHer at hf
  refine lv_aload_n C.1 C.2.1 dX5_readHer_0 rfl (lv_at hl 0 rfl) ?_
  refine m_getr C hW ha0 flX5_24 (by decide) dX5_readHer_1 (fun hk11 => ?_)
  refine m_geti C hW hk11 flX5_143 dX5_readHer_4 ?_
  refine lv_if_le (tgt := 19) C.1 C.2.1 dX5_readHer_7 rfl (fun c12 => ?_) (fun c12 => ?_)
  · have hf := (if_pos c12).symm.trans hf
    exact kX5_readHer_19  C a0 _ _ _ _ ha0 hW (lv_sub hl [0] rfl) hf
  · have hf := (if_neg c12).symm.trans hf
    refine lv_aload_n C.1 C.2.1 dX5_readHer_10 rfl (lv_at hl 0 rfl) ?_
    refine lv_iconst C.1 C.2.1 dX5_readHer_11 ic_1 ?_
    refine lv_aload_n C.1 C.2.1 dX5_readHer_12 rfl (lv_at hl 0 rfl) ?_
    refine m_geti C hW ha0 flX5_62 dX5_readHer_13 ?_
    obtain ⟨q13, h14, hf⟩ := bd hf
    refine m_callV (As := [.int (1 : Int32), .int (gI S a0 7)]) (rest := []) C hW ha0 (cX5_fail_ok  ha0 h14) mlX5_93 (by decide) rfl hl.1 rfl (Nat.le_of_ble_eq_true rfl) (Nat.le_of_ble_eq_true rfl) (Nat.le_of_ble_eq_true rfl) dX5_readHer_16 (fun H locs hW => ?_)
    exact kX5_readHer_19  C a0 _ _ _ _ ha0 hW (lv_sub hl [0] rfl) hf

def fX5_readWall_94  (x0 : Nat) (x1 : Int32) (x2 : Int32) (S : MS) : Option MS := (fX8_setWall  (gR S x0 9) x1 x2 S).bind fun q2 => some q2
def fX5_readWall_85  (x0 : Nat) (x1 : Int32) (x2 : Int32) (S : MS) : Option MS := (fX5_fail  x0 (5 : Int32) (gI S x0 8) S).bind fun q4 => fX5_readWall_94  x0 x1 x2 q4
def fX5_readWall_18  (x0 : Nat) (y0 : Nat) (y1 : Int32) (S : MS) : Option MS := (fX5_takeWord  y0 y1 S).bind fun q6 => (fX5_number  x0 (0 : Int32) ((gI q6 (gR q6 x0 9) 8) - (1 : Int32)) q6).bind fun q9 => (fX5_number  x0 (0 : Int32) ((gI q9.2 (gR q9.2 x0 9) 9) - (1 : Int32)) q9.2).bind fun q12 => (fX8_isWall  (gR q12.2 x0 9) q9.1 q12.1 q12.2).bind fun q15 => (if q15 = (0 : Int32) then (if q9.1 = gI q12.2 (gR q12.2 x0 9) 10 then (if q12.1 = gI q12.2 (gR q12.2 x0 9) 11 then fX5_readWall_85  x0 q9.1 q12.1 q12.2 else fX5_readWall_94  x0 q9.1 q12.1 q12.2) else fX5_readWall_94  x0 q9.1 q12.1 q12.2) else fX5_readWall_85  x0 q9.1 q12.1 q12.2)
def fX5_readWall (a0 : Nat) (S : MS) : Option MS := (if (gI S (gR S a0 9) 12) < (8 : Int32) then fX5_readWall_18  a0 a0 (0 : Int32) S else fX5_readWall_18  a0 a0 (1 : Int32) S)
set_option maxRecDepth 100000 in
theorem kX5_readWall_94 {p : Program} {l : Launch} {e : Env} {s : State} {m : MethodId} {av : Array Value} {below : List Frame} {meth : Method} {c : Code} {A : Nat → Prop} {G : Gv} {L : List Nat} {q : MS}  (C : mC p s m av meth c cX5_readWall RX5 3 none) : ∀ (x0 : Nat) (x1 : Int32) (x2 : Int32) (S : MS) (H : Heap) (locs : List Loc) (ls : Array Slot), (x0 < shX.1 ∧ shX.2.1 x0 = 5) → mW G shX L S A s H locs → lv_has ls 3 [(0, .ref (ad L x0)), (1, .int x1), (2, .int x2)] → fX5_readWall_94  x0 x1 x2 S = some q → W p l e (rmd (5)) s m av below meth c H locs 0 0 (MQ below (mQ G shX L q none A) av s 0 0 A) (F0 m 94 ls []) := by
  intro x0 x1 x2 S H locs ls hx0 hW hl hf
  unfold fX5_readWall_94 at hf
  refine lv_aload_n C.1 C.2.1 dX5_readWall_94 rfl (lv_at hl 0 rfl) ?_
  refine m_getr C hW hx0 flX5_24 (by decide) dX5_readWall_95 (fun hk1 => ?_)
  refine lv_iload_n C.1 C.2.1 dX5_readWall_98 rfl (lv_at hl 1 rfl) ?_
  refine lv_iload_n C.1 C.2.1 dX5_readWall_99 rfl (lv_at hl 2 rfl) ?_
  obtain ⟨q2, h3, hf⟩ := bd hf
  refine m_callV (As := [.int x1, .int x2]) (rest := []) C hW hk1 (cX8_setWall_ok  hk1 h3) mlX5_166 (by decide) rfl hl.1 rfl (Nat.le_of_ble_eq_true rfl) (Nat.le_of_ble_eq_true rfl) (Nat.le_of_ble_eq_true rfl) dX5_readWall_100 (fun H locs hW => ?_)
  cases hf
  exact m_vret C hW dX5_readWall_103

set_option maxRecDepth 100000 in
theorem kX5_readWall_85 {p : Program} {l : Launch} {e : Env} {s : State} {m : MethodId} {av : Array Value} {below : List Frame} {meth : Method} {c : Code} {A : Nat → Prop} {G : Gv} {L : List Nat} {q : MS}  (C : mC p s m av meth c cX5_readWall RX5 3 none) : ∀ (x0 : Nat) (x1 : Int32) (x2 : Int32) (S : MS) (H : Heap) (locs : List Loc) (ls : Array Slot), (x0 < shX.1 ∧ shX.2.1 x0 = 5) → mW G shX L S A s H locs → lv_has ls 3 [(0, .ref (ad L x0)), (1, .int x1), (2, .int x2)] → fX5_readWall_85  x0 x1 x2 S = some q → W p l e (rmd (5)) s m av below meth c H locs 0 0 (MQ below (mQ G shX L q none A) av s 0 0 A) (F0 m 85 ls []) := by
  intro x0 x1 x2 S H locs ls hx0 hW hl hf
  unfold fX5_readWall_85 at hf
  refine lv_aload_n C.1 C.2.1 dX5_readWall_85 rfl (lv_at hl 0 rfl) ?_
  refine lv_iconst C.1 C.2.1 dX5_readWall_86 ic_5 ?_
  refine lv_aload_n C.1 C.2.1 dX5_readWall_87 rfl (lv_at hl 0 rfl) ?_
  refine m_geti C hW hx0 flX5_163 dX5_readWall_88 ?_
  obtain ⟨q4, h5, hf⟩ := bd hf
  refine m_callV (As := [.int (5 : Int32), .int (gI S x0 8)]) (rest := []) C hW hx0 (cX5_fail_ok  hx0 h5) mlX5_93 (by decide) rfl hl.1 rfl (Nat.le_of_ble_eq_true rfl) (Nat.le_of_ble_eq_true rfl) (Nat.le_of_ble_eq_true rfl) dX5_readWall_91 (fun H locs hW => ?_)
  exact kX5_readWall_94  C x0 x1 x2 _ _ _ _ hx0 hW (lv_sub hl [0, 1, 2] rfl) hf

set_option maxRecDepth 100000 in
theorem kX5_readWall_18 {p : Program} {l : Launch} {e : Env} {s : State} {m : MethodId} {av : Array Value} {below : List Frame} {meth : Method} {c : Code} {A : Nat → Prop} {G : Gv} {L : List Nat} {q : MS}  (C : mC p s m av meth c cX5_readWall RX5 3 none) : ∀ (x0 : Nat) (y0 : Nat) (y1 : Int32) (S : MS) (H : Heap) (locs : List Loc) (ls : Array Slot), (x0 < shX.1 ∧ shX.2.1 x0 = 5) → (y0 < shX.1 ∧ shX.2.1 y0 = 5) → mW G shX L S A s H locs → lv_has ls 3 [(0, .ref (ad L x0))] → fX5_readWall_18  x0 y0 y1 S = some q → W p l e (rmd (5)) s m av below meth c H locs 0 0 (MQ below (mQ G shX L q none A) av s 0 0 A) (F0 m 18 ls [.int y1, .ref (ad L y0)]) := by
  intro x0 y0 y1 S H locs ls hx0 hy0 hW hl hf
  unfold fX5_readWall_18 at hf
  obtain ⟨q6, h7, hf⟩ := bd hf
  refine m_callV (As := [.int y1]) (rest := []) C hW hy0 (cX5_takeWord_ok  hy0 h7) mlX5_156 (by decide) rfl hl.1 rfl (Nat.le_of_ble_eq_true rfl) (Nat.le_of_ble_eq_true rfl) (Nat.le_of_ble_eq_true rfl) dX5_readWall_18 (fun H locs hW => ?_)
  refine lv_aload_n C.1 C.2.1 dX5_readWall_21 rfl (lv_at hl 0 rfl) ?_
  refine lv_iconst C.1 C.2.1 dX5_readWall_22 ic_0 ?_
  refine lv_aload_n C.1 C.2.1 dX5_readWall_23 rfl (lv_at hl 0 rfl) ?_
  refine m_getr C hW hx0 flX5_24 (by decide) dX5_readWall_24 (fun hk8 => ?_)
  refine m_geti C hW hk8 flX5_137 dX5_readWall_27 ?_
  refine lv_iconst C.1 C.2.1 dX5_readWall_30 ic_1 ?_
  refine lv_isub C.1 C.2.1 dX5_readWall_31 ?_
  obtain ⟨q9, h10, hf⟩ := bd hf
  refine m_callV (As := [.int (0 : Int32), .int ((gI q6 (gR q6 x0 9) 8) - (1 : Int32))]) (rest := []) C hW hx0 (cX5_number_ok  hx0 h10) mlX5_134 (by decide) rfl hl.1 rfl (Nat.le_of_ble_eq_true rfl) (Nat.le_of_ble_eq_true rfl) (Nat.le_of_ble_eq_true rfl) dX5_readWall_32 (fun H locs hW => ?_)
  refine lv_istore_n (lv' := [(1, .int q9.1), (0, .ref (ad L x0))]) C.1 C.2.1 dX5_readWall_35 rfl hl (by decide) rfl (fun ls hl => ?_)
  refine lv_aload_n C.1 C.2.1 dX5_readWall_36 rfl (lv_at hl 1 rfl) ?_
  refine lv_iconst C.1 C.2.1 dX5_readWall_37 ic_0 ?_
  refine lv_aload_n C.1 C.2.1 dX5_readWall_38 rfl (lv_at hl 1 rfl) ?_
  refine m_getr C hW hx0 flX5_24 (by decide) dX5_readWall_39 (fun hk11 => ?_)
  refine m_geti C hW hk11 flX5_140 dX5_readWall_42 ?_
  refine lv_iconst C.1 C.2.1 dX5_readWall_45 ic_1 ?_
  refine lv_isub C.1 C.2.1 dX5_readWall_46 ?_
  obtain ⟨q12, h13, hf⟩ := bd hf
  refine m_callV (As := [.int (0 : Int32), .int ((gI q9.2 (gR q9.2 x0 9) 9) - (1 : Int32))]) (rest := []) C hW hx0 (cX5_number_ok  hx0 h13) mlX5_134 (by decide) rfl hl.1 rfl (Nat.le_of_ble_eq_true rfl) (Nat.le_of_ble_eq_true rfl) (Nat.le_of_ble_eq_true rfl) dX5_readWall_47 (fun H locs hW => ?_)
  refine lv_istore_n (lv' := [(2, .int q12.1), (1, .int q9.1), (0, .ref (ad L x0))]) C.1 C.2.1 dX5_readWall_50 rfl hl (by decide) rfl (fun ls hl => ?_)
  refine lv_aload_n C.1 C.2.1 dX5_readWall_51 rfl (lv_at hl 2 rfl) ?_
  refine m_getr C hW hx0 flX5_24 (by decide) dX5_readWall_52 (fun hk14 => ?_)
  refine lv_iload_n C.1 C.2.1 dX5_readWall_55 rfl (lv_at hl 1 rfl) ?_
  refine lv_iload_n C.1 C.2.1 dX5_readWall_56 rfl (lv_at hl 0 rfl) ?_
  obtain ⟨q15, h16, hf⟩ := bd hf
  refine m_callV (As := [.int q9.1, .int q12.1]) (rest := []) C hW hk14 (cX8_isWall_ok  hk14 h16) mlX5_159 (by decide) rfl hl.1 rfl (Nat.le_of_ble_eq_true rfl) (Nat.le_of_ble_eq_true rfl) (Nat.le_of_ble_eq_true rfl) dX5_readWall_57 (fun H locs hW => ?_)
  refine lv_if_ne (tgt := 85) C.1 C.2.1 dX5_readWall_60 rfl (fun c17 => ?_) (fun c17 => ?_)
  · have hf := (if_neg c17).symm.trans hf
    exact kX5_readWall_85  C x0 q9.1 q12.1 _ _ _ _ hx0 hW (lv_sub hl [2, 1, 0] rfl) hf
  · have hf := (if_pos c17).symm.trans hf
    refine lv_iload_n C.1 C.2.1 dX5_readWall_63 rfl (lv_at hl 1 rfl) ?_
    refine lv_aload_n C.1 C.2.1 dX5_readWall_64 rfl (lv_at hl 2 rfl) ?_
    refine m_getr C hW hx0 flX5_24 (by decide) dX5_readWall_65 (fun hk18 => ?_)
    refine m_geti C hW hk18 flX5_150 dX5_readWall_68 ?_
    refine lv_icmp_ne (tgt := 94) C.1 C.2.1 dX5_readWall_71 rfl (fun c19 => ?_) (fun c19 => ?_)
    · have hf := (if_neg c19).symm.trans hf
      exact kX5_readWall_94  C x0 q9.1 q12.1 _ _ _ _ hx0 hW (lv_sub hl [2, 1, 0] rfl) hf
    · have hf := (if_pos c19).symm.trans hf
      refine lv_iload_n C.1 C.2.1 dX5_readWall_74 rfl (lv_at hl 0 rfl) ?_
      refine lv_aload_n C.1 C.2.1 dX5_readWall_75 rfl (lv_at hl 2 rfl) ?_
      refine m_getr C hW hx0 flX5_24 (by decide) dX5_readWall_76 (fun hk20 => ?_)
      refine m_geti C hW hk20 flX5_153 dX5_readWall_79 ?_
      refine lv_icmp_ne (tgt := 94) C.1 C.2.1 dX5_readWall_82 rfl (fun c21 => ?_) (fun c21 => ?_)
      · have hf := (if_neg c21).symm.trans hf
        exact kX5_readWall_94  C x0 q9.1 q12.1 _ _ _ _ hx0 hW (lv_sub hl [2, 1, 0] rfl) hf
      · have hf := (if_pos c21).symm.trans hf
        exact kX5_readWall_85  C x0 q9.1 q12.1 _ _ _ _ hx0 hW (lv_sub hl [2, 1, 0] rfl) hf

set_option maxRecDepth 100000 in
theorem cX5_readWall_ok {l : Launch} {G : Gv} {L : List Nat} {S : MS} {a0 : Nat} {q : MS} (ha0 : a0 < shX.1 ∧ shX.2.1 a0 = 5) (hf : fX5_readWall a0 S = some q) : Mt l yX5_readWall cX5_readWall 3 none (5) G shX L S [.ref (ad L a0)] none q := by
  refine m_enter (lv := [(0, .ref (ad L a0))]) (plainFor_of_name (by decide)) (Nat.le_of_ble_eq_true rfl) rfl ?_
  intro p e s m below meth c A ls C hW hl
  unfold fX5_readWall at hf
  refine lv_aload_n C.1 C.2.1 dX5_readWall_0 rfl (lv_at hl 0 rfl) ?_
  refine lv_aload_n C.1 C.2.1 dX5_readWall_1 rfl (lv_at hl 0 rfl) ?_
  refine m_getr C hW ha0 flX5_24 (by decide) dX5_readWall_2 (fun hk22 => ?_)
  refine m_geti C hW hk22 flX5_143 dX5_readWall_5 ?_
  refine lv_bipush C.1 C.2.1 dX5_readWall_8 bp_8 ?_
  refine lv_icmp_lt (tgt := 17) C.1 C.2.1 dX5_readWall_10 rfl (fun c23 => ?_) (fun c23 => ?_)
  · have hf := (if_pos c23).symm.trans hf
    refine lv_iconst C.1 C.2.1 dX5_readWall_17 ic_0 ?_
    exact kX5_readWall_18  C a0 a0 (0 : Int32) _ _ _ _ ha0 ha0 hW (lv_sub hl [0] rfl) hf
  · have hf := (if_neg c23).symm.trans hf
    refine lv_iconst C.1 C.2.1 dX5_readWall_13 ic_1 ?_
    refine lv_goto (tgt := 18) C.1 C.2.1 dX5_readWall_14 rfl ?_
    exact kX5_readWall_18  C a0 a0 (1 : Int32) _ _ _ _ ha0 ha0 hW (lv_sub hl [0] rfl) hf

def fX5_readSun_43  (x0 : Nat) (x1 : Nat) (x2 : Int32) (S : MS) : Option MS := (fX7_put  x1 (0 : Int32) x2 S).bind fun q1 => (fX5_number  x0 (0 : Int32) (3 : Int32) q1).bind fun q3 => (fX7_put  x1 (1 : Int32) q3.1 q3.2).bind fun q5 => (fX5_number  x0 (0 : Int32) (7 : Int32) q5).bind fun q7 => (fX7_put  x1 (2 : Int32) q7.1 q7.2).bind fun q9 => (fX7_close  x1 q9).bind fun q11 => some q11
def fX5_readSun (a0 : Nat) (S : MS) : Option MS := (fX7_isFull  (gR S (gR S a0 9) 2) S).bind fun q15 => (fX5_takeWord  a0 q15 S).bind fun q17 => (fX5_number  a0 (0 : Int32) (23 : Int32) q17).bind fun q19 => (fX7_find  (gR S (gR S a0 9) 2) (0 : Int32) q19.1 q19.2).bind fun q21 => (if q21 = (-1 : Int32) then fX5_readSun_43  a0 (gR S (gR S a0 9) 2) q19.1 q19.2 else (fX5_fail  a0 (3 : Int32) (gI q19.2 a0 8) q19.2).bind fun q24 => fX5_readSun_43  a0 (gR S (gR S a0 9) 2) q19.1 q24)
set_option maxRecDepth 100000 in
theorem kX5_readSun_43 {p : Program} {l : Launch} {e : Env} {s : State} {m : MethodId} {av : Array Value} {below : List Frame} {meth : Method} {c : Code} {A : Nat → Prop} {G : Gv} {L : List Nat} {q : MS}  (C : mC p s m av meth c cX5_readSun RX5 3 none) : ∀ (x0 : Nat) (x1 : Nat) (x2 : Int32) (S : MS) (H : Heap) (locs : List Loc) (ls : Array Slot), (x0 < shX.1 ∧ shX.2.1 x0 = 5) → (x1 < shX.1 ∧ shX.2.1 x1 = 7) → mW G shX L S A s H locs → lv_has ls 3 [(0, .ref (ad L x0)), (1, .ref (ad L x1)), (2, .int x2)] → fX5_readSun_43  x0 x1 x2 S = some q → W p l e (rmd (5)) s m av below meth c H locs 0 0 (MQ below (mQ G shX L q none A) av s 0 0 A) (F0 m 43 ls []) := by
  intro x0 x1 x2 S H locs ls hx0 hx1 hW hl hf
  unfold fX5_readSun_43 at hf
  refine lv_aload_n C.1 C.2.1 dX5_readSun_43 rfl (lv_at hl 1 rfl) ?_
  refine lv_iconst C.1 C.2.1 dX5_readSun_44 ic_0 ?_
  refine lv_iload_n C.1 C.2.1 dX5_readSun_45 rfl (lv_at hl 2 rfl) ?_
  obtain ⟨q1, h2, hf⟩ := bd hf
  refine m_callV (As := [.int (0 : Int32), .int x2]) (rest := []) C hW hx1 (cX7_put_ok  hx1 h2) mlX5_182 (by decide) rfl hl.1 rfl (Nat.le_of_ble_eq_true rfl) (Nat.le_of_ble_eq_true rfl) (Nat.le_of_ble_eq_true rfl) dX5_readSun_46 (fun H locs hW => ?_)
  refine lv_aload_n C.1 C.2.1 dX5_readSun_49 rfl (lv_at hl 1 rfl) ?_
  refine lv_iconst C.1 C.2.1 dX5_readSun_50 ic_1 ?_
  refine lv_aload_n C.1 C.2.1 dX5_readSun_51 rfl (lv_at hl 0 rfl) ?_
  refine lv_iconst C.1 C.2.1 dX5_readSun_52 ic_0 ?_
  refine lv_iconst C.1 C.2.1 dX5_readSun_53 ic_3 ?_
  obtain ⟨q3, h4, hf⟩ := bd hf
  refine m_callV (As := [.int (0 : Int32), .int (3 : Int32)]) (rest := [.int (1 : Int32), .ref (ad L x1)]) C hW hx0 (cX5_number_ok  hx0 h4) mlX5_134 (by decide) rfl hl.1 rfl (Nat.le_of_ble_eq_true rfl) (Nat.le_of_ble_eq_true rfl) (Nat.le_of_ble_eq_true rfl) dX5_readSun_54 (fun H locs hW => ?_)
  obtain ⟨q5, h6, hf⟩ := bd hf
  refine m_callV (As := [.int (1 : Int32), .int q3.1]) (rest := []) C hW hx1 (cX7_put_ok  hx1 h6) mlX5_182 (by decide) rfl hl.1 rfl (Nat.le_of_ble_eq_true rfl) (Nat.le_of_ble_eq_true rfl) (Nat.le_of_ble_eq_true rfl) dX5_readSun_57 (fun H locs hW => ?_)
  refine lv_aload_n C.1 C.2.1 dX5_readSun_60 rfl (lv_at hl 1 rfl) ?_
  refine lv_iconst C.1 C.2.1 dX5_readSun_61 ic_2 ?_
  refine lv_aload_n C.1 C.2.1 dX5_readSun_62 rfl (lv_at hl 0 rfl) ?_
  refine lv_iconst C.1 C.2.1 dX5_readSun_63 ic_0 ?_
  refine lv_bipush C.1 C.2.1 dX5_readSun_64 bp_7 ?_
  obtain ⟨q7, h8, hf⟩ := bd hf
  refine m_callV (As := [.int (0 : Int32), .int (7 : Int32)]) (rest := [.int (2 : Int32), .ref (ad L x1)]) C hW hx0 (cX5_number_ok  hx0 h8) mlX5_134 (by decide) rfl hl.1 rfl (Nat.le_of_ble_eq_true rfl) (Nat.le_of_ble_eq_true rfl) (Nat.le_of_ble_eq_true rfl) dX5_readSun_66 (fun H locs hW => ?_)
  obtain ⟨q9, h10, hf⟩ := bd hf
  refine m_callV (As := [.int (2 : Int32), .int q7.1]) (rest := []) C hW hx1 (cX7_put_ok  hx1 h10) mlX5_182 (by decide) rfl hl.1 rfl (Nat.le_of_ble_eq_true rfl) (Nat.le_of_ble_eq_true rfl) (Nat.le_of_ble_eq_true rfl) dX5_readSun_69 (fun H locs hW => ?_)
  refine lv_aload_n C.1 C.2.1 dX5_readSun_72 rfl (lv_at hl 1 rfl) ?_
  obtain ⟨q11, h12, hf⟩ := bd hf
  refine m_callV (As := []) (rest := []) C hW hx1 (cX7_close_ok  hx1 h12) mlX5_185 (by decide) rfl hl.1 rfl (Nat.le_of_ble_eq_true rfl) (Nat.le_of_ble_eq_true rfl) (Nat.le_of_ble_eq_true rfl) dX5_readSun_73 (fun H locs hW => ?_)
  cases hf
  exact m_vret C hW dX5_readSun_76

set_option maxRecDepth 100000 in
theorem cX5_readSun_ok {l : Launch} {G : Gv} {L : List Nat} {S : MS} {a0 : Nat} {q : MS} (ha0 : a0 < shX.1 ∧ shX.2.1 a0 = 5) (hf : fX5_readSun a0 S = some q) : Mt l yX5_readSun cX5_readSun 3 none (5) G shX L S [.ref (ad L a0)] none q := by
  refine m_enter (lv := [(0, .ref (ad L a0))]) (plainFor_of_name (by decide)) (Nat.le_of_ble_eq_true rfl) rfl ?_
  intro p e s m below meth c A ls C hW hl
  unfold fX5_readSun at hf
  refine lv_aload_n C.1 C.2.1 dX5_readSun_0 rfl (lv_at hl 0 rfl) ?_
  refine m_getr C hW ha0 flX5_24 (by decide) dX5_readSun_1 (fun hk13 => ?_)
  refine m_getr C hW hk13 flX5_169 (by decide) dX5_readSun_4 (fun hk14 => ?_)
  refine lv_astore_n (lv' := [(1, .ref (ad L (gR S (gR S a0 9) 2))), (0, .ref (ad L a0))]) C.1 C.2.1 dX5_readSun_7 rfl hl (by decide) rfl (fun ls hl => ?_)
  refine lv_aload_n C.1 C.2.1 dX5_readSun_8 rfl (lv_at hl 1 rfl) ?_
  refine lv_aload_n C.1 C.2.1 dX5_readSun_9 rfl (lv_at hl 0 rfl) ?_
  obtain ⟨q15, h16, hf⟩ := bd hf
  refine m_callV (As := []) (rest := [.ref (ad L a0)]) C hW hk14 (cX7_isFull_ok  hk14 h16) mlX5_173 (by decide) rfl hl.1 rfl (Nat.le_of_ble_eq_true rfl) (Nat.le_of_ble_eq_true rfl) (Nat.le_of_ble_eq_true rfl) dX5_readSun_10 (fun H locs hW => ?_)
  obtain ⟨q17, h18, hf⟩ := bd hf
  refine m_callV (As := [.int q15]) (rest := []) C hW ha0 (cX5_takeWord_ok  ha0 h18) mlX5_156 (by decide) rfl hl.1 rfl (Nat.le_of_ble_eq_true rfl) (Nat.le_of_ble_eq_true rfl) (Nat.le_of_ble_eq_true rfl) dX5_readSun_13 (fun H locs hW => ?_)
  refine lv_aload_n C.1 C.2.1 dX5_readSun_16 rfl (lv_at hl 1 rfl) ?_
  refine lv_iconst C.1 C.2.1 dX5_readSun_17 ic_0 ?_
  refine lv_bipush C.1 C.2.1 dX5_readSun_18 bp_23 ?_
  obtain ⟨q19, h20, hf⟩ := bd hf
  refine m_callV (As := [.int (0 : Int32), .int (23 : Int32)]) (rest := []) C hW ha0 (cX5_number_ok  ha0 h20) mlX5_134 (by decide) rfl hl.1 rfl (Nat.le_of_ble_eq_true rfl) (Nat.le_of_ble_eq_true rfl) (Nat.le_of_ble_eq_true rfl) dX5_readSun_20 (fun H locs hW => ?_)
  refine lv_istore_n (lv' := [(2, .int q19.1), (1, .ref (ad L (gR S (gR S a0 9) 2))), (0, .ref (ad L a0))]) C.1 C.2.1 dX5_readSun_23 rfl hl (by decide) rfl (fun ls hl => ?_)
  refine lv_aload_n C.1 C.2.1 dX5_readSun_24 rfl (lv_at hl 1 rfl) ?_
  refine lv_iconst C.1 C.2.1 dX5_readSun_25 ic_0 ?_
  refine lv_iload_n C.1 C.2.1 dX5_readSun_26 rfl (lv_at hl 0 rfl) ?_
  obtain ⟨q21, h22, hf⟩ := bd hf
  refine m_callV (As := [.int (0 : Int32), .int q19.1]) (rest := []) C hW hk14 (cX7_find_ok  hk14 h22) mlX5_179 (by decide) rfl hl.1 rfl (Nat.le_of_ble_eq_true rfl) (Nat.le_of_ble_eq_true rfl) (Nat.le_of_ble_eq_true rfl) dX5_readSun_27 (fun H locs hW => ?_)
  refine lv_iconst C.1 C.2.1 dX5_readSun_30 ic_m1 ?_
  refine lv_icmp_eq (tgt := 43) C.1 C.2.1 dX5_readSun_31 rfl (fun c23 => ?_) (fun c23 => ?_)
  · have hf := (if_pos c23).symm.trans hf
    exact kX5_readSun_43  C a0 (gR S (gR S a0 9) 2) q19.1 _ _ _ _ ha0 hk14 hW (lv_sub hl [2, 1, 0] rfl) hf
  · have hf := (if_neg c23).symm.trans hf
    refine lv_aload_n C.1 C.2.1 dX5_readSun_34 rfl (lv_at hl 2 rfl) ?_
    refine lv_iconst C.1 C.2.1 dX5_readSun_35 ic_3 ?_
    refine lv_aload_n C.1 C.2.1 dX5_readSun_36 rfl (lv_at hl 2 rfl) ?_
    refine m_geti C hW ha0 flX5_163 dX5_readSun_37 ?_
    obtain ⟨q24, h25, hf⟩ := bd hf
    refine m_callV (As := [.int (3 : Int32), .int (gI q19.2 a0 8)]) (rest := []) C hW ha0 (cX5_fail_ok  ha0 h25) mlX5_93 (by decide) rfl hl.1 rfl (Nat.le_of_ble_eq_true rfl) (Nat.le_of_ble_eq_true rfl) (Nat.le_of_ble_eq_true rfl) dX5_readSun_40 (fun H locs hW => ?_)
    exact kX5_readSun_43  C a0 (gR S (gR S a0 9) 2) q19.1 _ _ _ _ ha0 hk14 hW (lv_sub hl [2, 1, 0] rfl) hf

def fX5_readLamp (a0 : Nat) (S : MS) : Option MS := (fX7_isFull  (gR S (gR S a0 9) 3) S).bind fun q3 => (fX5_takeWord  a0 q3 S).bind fun q5 => (fX5_takeName  a0 (gR S (gR S a0 9) 3) q5).bind fun q7 => (fX5_number  a0 (0 : Int32) ((gI q7 (gR q7 a0 9) 8) - (1 : Int32)) q7).bind fun q10 => (fX7_put  (gR S (gR S a0 9) 3) (1 : Int32) q10.1 q10.2).bind fun q12 => (fX5_number  a0 (0 : Int32) ((gI q12 (gR q12 a0 9) 9) - (1 : Int32)) q12).bind fun q15 => (fX7_put  (gR S (gR S a0 9) 3) (2 : Int32) q15.1 q15.2).bind fun q17 => (fX5_number  a0 (1 : Int32) (9 : Int32) q17).bind fun q19 => (fX7_put  (gR S (gR S a0 9) 3) (3 : Int32) q19.1 q19.2).bind fun q21 => (fX7_close  (gR S (gR S a0 9) 3) q21).bind fun q23 => some q23
set_option maxRecDepth 100000 in
theorem cX5_readLamp_ok {l : Launch} {G : Gv} {L : List Nat} {S : MS} {a0 : Nat} {q : MS} (ha0 : a0 < shX.1 ∧ shX.2.1 a0 = 5) (hf : fX5_readLamp a0 S = some q) : Mt l yX5_readLamp cX5_readLamp 2 none (5) G shX L S [.ref (ad L a0)] none q := by
  refine m_enter (lv := [(0, .ref (ad L a0))]) (plainFor_of_name (by decide)) (Nat.le_of_ble_eq_true rfl) rfl ?_
  intro p e s m below meth c A ls C hW hl
  unfold fX5_readLamp at hf
  refine lv_aload_n C.1 C.2.1 dX5_readLamp_0 rfl (lv_at hl 0 rfl) ?_
  refine m_getr C hW ha0 flX5_24 (by decide) dX5_readLamp_1 (fun hk1 => ?_)
  refine m_getr C hW hk1 flX5_188 (by decide) dX5_readLamp_4 (fun hk2 => ?_)
  refine lv_astore_n (lv' := [(1, .ref (ad L (gR S (gR S a0 9) 3))), (0, .ref (ad L a0))]) C.1 C.2.1 dX5_readLamp_7 rfl hl (by decide) rfl (fun ls hl => ?_)
  refine lv_aload_n C.1 C.2.1 dX5_readLamp_8 rfl (lv_at hl 1 rfl) ?_
  refine lv_aload_n C.1 C.2.1 dX5_readLamp_9 rfl (lv_at hl 0 rfl) ?_
  obtain ⟨q3, h4, hf⟩ := bd hf
  refine m_callV (As := []) (rest := [.ref (ad L a0)]) C hW hk2 (cX7_isFull_ok  hk2 h4) mlX5_173 (by decide) rfl hl.1 rfl (Nat.le_of_ble_eq_true rfl) (Nat.le_of_ble_eq_true rfl) (Nat.le_of_ble_eq_true rfl) dX5_readLamp_10 (fun H locs hW => ?_)
  obtain ⟨q5, h6, hf⟩ := bd hf
  refine m_callV (As := [.int q3]) (rest := []) C hW ha0 (cX5_takeWord_ok  ha0 h6) mlX5_156 (by decide) rfl hl.1 rfl (Nat.le_of_ble_eq_true rfl) (Nat.le_of_ble_eq_true rfl) (Nat.le_of_ble_eq_true rfl) dX5_readLamp_13 (fun H locs hW => ?_)
  refine lv_aload_n C.1 C.2.1 dX5_readLamp_16 rfl (lv_at hl 1 rfl) ?_
  refine lv_aload_n C.1 C.2.1 dX5_readLamp_17 rfl (lv_at hl 0 rfl) ?_
  obtain ⟨q7, h8, hf⟩ := bd hf
  refine m_callV (As := [.ref (ad L (gR S (gR S a0 9) 3))]) (rest := []) C hW ha0 (cX5_takeName_ok  ha0 hk2 h8) mlX5_191 (by decide) rfl hl.1 rfl (Nat.le_of_ble_eq_true rfl) (Nat.le_of_ble_eq_true rfl) (Nat.le_of_ble_eq_true rfl) dX5_readLamp_18 (fun H locs hW => ?_)
  refine lv_aload_n C.1 C.2.1 dX5_readLamp_21 rfl (lv_at hl 0 rfl) ?_
  refine lv_iconst C.1 C.2.1 dX5_readLamp_22 ic_1 ?_
  refine lv_aload_n C.1 C.2.1 dX5_readLamp_23 rfl (lv_at hl 1 rfl) ?_
  refine lv_iconst C.1 C.2.1 dX5_readLamp_24 ic_0 ?_
  refine lv_aload_n C.1 C.2.1 dX5_readLamp_25 rfl (lv_at hl 1 rfl) ?_
  refine m_getr C hW ha0 flX5_24 (by decide) dX5_readLamp_26 (fun hk9 => ?_)
  refine m_geti C hW hk9 flX5_137 dX5_readLamp_29 ?_
  refine lv_iconst C.1 C.2.1 dX5_readLamp_32 ic_1 ?_
  refine lv_isub C.1 C.2.1 dX5_readLamp_33 ?_
  obtain ⟨q10, h11, hf⟩ := bd hf
  refine m_callV (As := [.int (0 : Int32), .int ((gI q7 (gR q7 a0 9) 8) - (1 : Int32))]) (rest := [.int (1 : Int32), .ref (ad L (gR S (gR S a0 9) 3))]) C hW ha0 (cX5_number_ok  ha0 h11) mlX5_134 (by decide) rfl hl.1 rfl (Nat.le_of_ble_eq_true rfl) (Nat.le_of_ble_eq_true rfl) (Nat.le_of_ble_eq_true rfl) dX5_readLamp_34 (fun H locs hW => ?_)
  obtain ⟨q12, h13, hf⟩ := bd hf
  refine m_callV (As := [.int (1 : Int32), .int q10.1]) (rest := []) C hW hk2 (cX7_put_ok  hk2 h13) mlX5_182 (by decide) rfl hl.1 rfl (Nat.le_of_ble_eq_true rfl) (Nat.le_of_ble_eq_true rfl) (Nat.le_of_ble_eq_true rfl) dX5_readLamp_37 (fun H locs hW => ?_)
  refine lv_aload_n C.1 C.2.1 dX5_readLamp_40 rfl (lv_at hl 0 rfl) ?_
  refine lv_iconst C.1 C.2.1 dX5_readLamp_41 ic_2 ?_
  refine lv_aload_n C.1 C.2.1 dX5_readLamp_42 rfl (lv_at hl 1 rfl) ?_
  refine lv_iconst C.1 C.2.1 dX5_readLamp_43 ic_0 ?_
  refine lv_aload_n C.1 C.2.1 dX5_readLamp_44 rfl (lv_at hl 1 rfl) ?_
  refine m_getr C hW ha0 flX5_24 (by decide) dX5_readLamp_45 (fun hk14 => ?_)
  refine m_geti C hW hk14 flX5_140 dX5_readLamp_48 ?_
  refine lv_iconst C.1 C.2.1 dX5_readLamp_51 ic_1 ?_
  refine lv_isub C.1 C.2.1 dX5_readLamp_52 ?_
  obtain ⟨q15, h16, hf⟩ := bd hf
  refine m_callV (As := [.int (0 : Int32), .int ((gI q12 (gR q12 a0 9) 9) - (1 : Int32))]) (rest := [.int (2 : Int32), .ref (ad L (gR S (gR S a0 9) 3))]) C hW ha0 (cX5_number_ok  ha0 h16) mlX5_134 (by decide) rfl hl.1 rfl (Nat.le_of_ble_eq_true rfl) (Nat.le_of_ble_eq_true rfl) (Nat.le_of_ble_eq_true rfl) dX5_readLamp_53 (fun H locs hW => ?_)
  obtain ⟨q17, h18, hf⟩ := bd hf
  refine m_callV (As := [.int (2 : Int32), .int q15.1]) (rest := []) C hW hk2 (cX7_put_ok  hk2 h18) mlX5_182 (by decide) rfl hl.1 rfl (Nat.le_of_ble_eq_true rfl) (Nat.le_of_ble_eq_true rfl) (Nat.le_of_ble_eq_true rfl) dX5_readLamp_56 (fun H locs hW => ?_)
  refine lv_aload_n C.1 C.2.1 dX5_readLamp_59 rfl (lv_at hl 0 rfl) ?_
  refine lv_iconst C.1 C.2.1 dX5_readLamp_60 ic_3 ?_
  refine lv_aload_n C.1 C.2.1 dX5_readLamp_61 rfl (lv_at hl 1 rfl) ?_
  refine lv_iconst C.1 C.2.1 dX5_readLamp_62 ic_1 ?_
  refine lv_bipush C.1 C.2.1 dX5_readLamp_63 bp_9 ?_
  obtain ⟨q19, h20, hf⟩ := bd hf
  refine m_callV (As := [.int (1 : Int32), .int (9 : Int32)]) (rest := [.int (3 : Int32), .ref (ad L (gR S (gR S a0 9) 3))]) C hW ha0 (cX5_number_ok  ha0 h20) mlX5_134 (by decide) rfl hl.1 rfl (Nat.le_of_ble_eq_true rfl) (Nat.le_of_ble_eq_true rfl) (Nat.le_of_ble_eq_true rfl) dX5_readLamp_65 (fun H locs hW => ?_)
  obtain ⟨q21, h22, hf⟩ := bd hf
  refine m_callV (As := [.int (3 : Int32), .int q19.1]) (rest := []) C hW hk2 (cX7_put_ok  hk2 h22) mlX5_182 (by decide) rfl hl.1 rfl (Nat.le_of_ble_eq_true rfl) (Nat.le_of_ble_eq_true rfl) (Nat.le_of_ble_eq_true rfl) dX5_readLamp_68 (fun H locs hW => ?_)
  refine lv_aload_n C.1 C.2.1 dX5_readLamp_71 rfl (lv_at hl 0 rfl) ?_
  obtain ⟨q23, h24, hf⟩ := bd hf
  refine m_callV (As := []) (rest := []) C hW hk2 (cX7_close_ok  hk2 h24) mlX5_185 (by decide) rfl hl.1 rfl (Nat.le_of_ble_eq_true rfl) (Nat.le_of_ble_eq_true rfl) (Nat.le_of_ble_eq_true rfl) dX5_readLamp_72 (fun H locs hW => ?_)
  cases hf
  exact m_vret C hW dX5_readLamp_75

def fX5_readStep (a0 : Nat) (S : MS) : Option MS := (fX7_isFull  (gR S (gR S a0 9) 4) S).bind fun q3 => (fX5_takeWord  a0 q3 S).bind fun q5 => (fX5_number  a0 (0 : Int32) (99 : Int32) q5).bind fun q7 => (fX7_put  (gR S (gR S a0 9) 4) (0 : Int32) q7.1 q7.2).bind fun q9 => (fX5_number  a0 (0 : Int32) (3 : Int32) q9).bind fun q11 => (fX7_put  (gR S (gR S a0 9) 4) (1 : Int32) q11.1 q11.2).bind fun q13 => (fX7_close  (gR S (gR S a0 9) 4) q13).bind fun q15 => some q15
set_option maxRecDepth 100000 in
theorem cX5_readStep_ok {l : Launch} {G : Gv} {L : List Nat} {S : MS} {a0 : Nat} {q : MS} (ha0 : a0 < shX.1 ∧ shX.2.1 a0 = 5) (hf : fX5_readStep a0 S = some q) : Mt l yX5_readStep cX5_readStep 2 none (5) G shX L S [.ref (ad L a0)] none q := by
  refine m_enter (lv := [(0, .ref (ad L a0))]) (plainFor_of_name (by decide)) (Nat.le_of_ble_eq_true rfl) rfl ?_
  intro p e s m below meth c A ls C hW hl
  unfold fX5_readStep at hf
  refine lv_aload_n C.1 C.2.1 dX5_readStep_0 rfl (lv_at hl 0 rfl) ?_
  refine m_getr C hW ha0 flX5_24 (by decide) dX5_readStep_1 (fun hk1 => ?_)
  refine m_getr C hW hk1 flX5_195 (by decide) dX5_readStep_4 (fun hk2 => ?_)
  refine lv_astore_n (lv' := [(1, .ref (ad L (gR S (gR S a0 9) 4))), (0, .ref (ad L a0))]) C.1 C.2.1 dX5_readStep_7 rfl hl (by decide) rfl (fun ls hl => ?_)
  refine lv_aload_n C.1 C.2.1 dX5_readStep_8 rfl (lv_at hl 1 rfl) ?_
  refine lv_aload_n C.1 C.2.1 dX5_readStep_9 rfl (lv_at hl 0 rfl) ?_
  obtain ⟨q3, h4, hf⟩ := bd hf
  refine m_callV (As := []) (rest := [.ref (ad L a0)]) C hW hk2 (cX7_isFull_ok  hk2 h4) mlX5_173 (by decide) rfl hl.1 rfl (Nat.le_of_ble_eq_true rfl) (Nat.le_of_ble_eq_true rfl) (Nat.le_of_ble_eq_true rfl) dX5_readStep_10 (fun H locs hW => ?_)
  obtain ⟨q5, h6, hf⟩ := bd hf
  refine m_callV (As := [.int q3]) (rest := []) C hW ha0 (cX5_takeWord_ok  ha0 h6) mlX5_156 (by decide) rfl hl.1 rfl (Nat.le_of_ble_eq_true rfl) (Nat.le_of_ble_eq_true rfl) (Nat.le_of_ble_eq_true rfl) dX5_readStep_13 (fun H locs hW => ?_)
  refine lv_aload_n C.1 C.2.1 dX5_readStep_16 rfl (lv_at hl 0 rfl) ?_
  refine lv_iconst C.1 C.2.1 dX5_readStep_17 ic_0 ?_
  refine lv_aload_n C.1 C.2.1 dX5_readStep_18 rfl (lv_at hl 1 rfl) ?_
  refine lv_iconst C.1 C.2.1 dX5_readStep_19 ic_0 ?_
  refine lv_bipush C.1 C.2.1 dX5_readStep_20 bp_99 ?_
  obtain ⟨q7, h8, hf⟩ := bd hf
  refine m_callV (As := [.int (0 : Int32), .int (99 : Int32)]) (rest := [.int (0 : Int32), .ref (ad L (gR S (gR S a0 9) 4))]) C hW ha0 (cX5_number_ok  ha0 h8) mlX5_134 (by decide) rfl hl.1 rfl (Nat.le_of_ble_eq_true rfl) (Nat.le_of_ble_eq_true rfl) (Nat.le_of_ble_eq_true rfl) dX5_readStep_22 (fun H locs hW => ?_)
  obtain ⟨q9, h10, hf⟩ := bd hf
  refine m_callV (As := [.int (0 : Int32), .int q7.1]) (rest := []) C hW hk2 (cX7_put_ok  hk2 h10) mlX5_182 (by decide) rfl hl.1 rfl (Nat.le_of_ble_eq_true rfl) (Nat.le_of_ble_eq_true rfl) (Nat.le_of_ble_eq_true rfl) dX5_readStep_25 (fun H locs hW => ?_)
  refine lv_aload_n C.1 C.2.1 dX5_readStep_28 rfl (lv_at hl 0 rfl) ?_
  refine lv_iconst C.1 C.2.1 dX5_readStep_29 ic_1 ?_
  refine lv_aload_n C.1 C.2.1 dX5_readStep_30 rfl (lv_at hl 1 rfl) ?_
  refine lv_iconst C.1 C.2.1 dX5_readStep_31 ic_0 ?_
  refine lv_iconst C.1 C.2.1 dX5_readStep_32 ic_3 ?_
  obtain ⟨q11, h12, hf⟩ := bd hf
  refine m_callV (As := [.int (0 : Int32), .int (3 : Int32)]) (rest := [.int (1 : Int32), .ref (ad L (gR S (gR S a0 9) 4))]) C hW ha0 (cX5_number_ok  ha0 h12) mlX5_134 (by decide) rfl hl.1 rfl (Nat.le_of_ble_eq_true rfl) (Nat.le_of_ble_eq_true rfl) (Nat.le_of_ble_eq_true rfl) dX5_readStep_33 (fun H locs hW => ?_)
  obtain ⟨q13, h14, hf⟩ := bd hf
  refine m_callV (As := [.int (1 : Int32), .int q11.1]) (rest := []) C hW hk2 (cX7_put_ok  hk2 h14) mlX5_182 (by decide) rfl hl.1 rfl (Nat.le_of_ble_eq_true rfl) (Nat.le_of_ble_eq_true rfl) (Nat.le_of_ble_eq_true rfl) dX5_readStep_36 (fun H locs hW => ?_)
  refine lv_aload_n C.1 C.2.1 dX5_readStep_39 rfl (lv_at hl 0 rfl) ?_
  obtain ⟨q15, h16, hf⟩ := bd hf
  refine m_callV (As := []) (rest := []) C hW hk2 (cX7_close_ok  hk2 h16) mlX5_185 (by decide) rfl hl.1 rfl (Nat.le_of_ble_eq_true rfl) (Nat.le_of_ble_eq_true rfl) (Nat.le_of_ble_eq_true rfl) dX5_readStep_40 (fun H locs hW => ?_)
  cases hf
  exact m_vret C hW dX5_readStep_43

def fX5_readDoing (a0 : Nat) (S : MS) : Option MS := (fX7_isFull  (gR S (gR S a0 9) 5) S).bind fun q3 => (fX5_takeWord  a0 q3 S).bind fun q5 => (fX5_takeName  a0 (gR S (gR S a0 9) 5) q5).bind fun q7 => (fX5_number  a0 (0 : Int32) (1 : Int32) q7).bind fun q9 => (fX7_put  (gR S (gR S a0 9) 5) (1 : Int32) q9.1 q9.2).bind fun q11 => (fX5_number  a0 (0 : Int32) ((gI q11 (gR q11 a0 9) 8) - (1 : Int32)) q11).bind fun q14 => (fX7_put  (gR S (gR S a0 9) 5) (2 : Int32) q14.1 q14.2).bind fun q16 => (fX5_number  a0 (0 : Int32) ((gI q16 (gR q16 a0 9) 9) - (1 : Int32)) q16).bind fun q19 => (fX7_put  (gR S (gR S a0 9) 5) (3 : Int32) q19.1 q19.2).bind fun q21 => (fX5_number  a0 (1 : Int32) (99 : Int32) q21).bind fun q23 => (fX7_put  (gR S (gR S a0 9) 5) (4 : Int32) q23.1 q23.2).bind fun q25 => (fX7_close  (gR S (gR S a0 9) 5) q25).bind fun q27 => some q27
set_option maxRecDepth 100000 in
theorem cX5_readDoing_ok {l : Launch} {G : Gv} {L : List Nat} {S : MS} {a0 : Nat} {q : MS} (ha0 : a0 < shX.1 ∧ shX.2.1 a0 = 5) (hf : fX5_readDoing a0 S = some q) : Mt l yX5_readDoing cX5_readDoing 2 none (5) G shX L S [.ref (ad L a0)] none q := by
  refine m_enter (lv := [(0, .ref (ad L a0))]) (plainFor_of_name (by decide)) (Nat.le_of_ble_eq_true rfl) rfl ?_
  intro p e s m below meth c A ls C hW hl
  unfold fX5_readDoing at hf
  refine lv_aload_n C.1 C.2.1 dX5_readDoing_0 rfl (lv_at hl 0 rfl) ?_
  refine m_getr C hW ha0 flX5_24 (by decide) dX5_readDoing_1 (fun hk1 => ?_)
  refine m_getr C hW hk1 flX5_198 (by decide) dX5_readDoing_4 (fun hk2 => ?_)
  refine lv_astore_n (lv' := [(1, .ref (ad L (gR S (gR S a0 9) 5))), (0, .ref (ad L a0))]) C.1 C.2.1 dX5_readDoing_7 rfl hl (by decide) rfl (fun ls hl => ?_)
  refine lv_aload_n C.1 C.2.1 dX5_readDoing_8 rfl (lv_at hl 1 rfl) ?_
  refine lv_aload_n C.1 C.2.1 dX5_readDoing_9 rfl (lv_at hl 0 rfl) ?_
  obtain ⟨q3, h4, hf⟩ := bd hf
  refine m_callV (As := []) (rest := [.ref (ad L a0)]) C hW hk2 (cX7_isFull_ok  hk2 h4) mlX5_173 (by decide) rfl hl.1 rfl (Nat.le_of_ble_eq_true rfl) (Nat.le_of_ble_eq_true rfl) (Nat.le_of_ble_eq_true rfl) dX5_readDoing_10 (fun H locs hW => ?_)
  obtain ⟨q5, h6, hf⟩ := bd hf
  refine m_callV (As := [.int q3]) (rest := []) C hW ha0 (cX5_takeWord_ok  ha0 h6) mlX5_156 (by decide) rfl hl.1 rfl (Nat.le_of_ble_eq_true rfl) (Nat.le_of_ble_eq_true rfl) (Nat.le_of_ble_eq_true rfl) dX5_readDoing_13 (fun H locs hW => ?_)
  refine lv_aload_n C.1 C.2.1 dX5_readDoing_16 rfl (lv_at hl 1 rfl) ?_
  refine lv_aload_n C.1 C.2.1 dX5_readDoing_17 rfl (lv_at hl 0 rfl) ?_
  obtain ⟨q7, h8, hf⟩ := bd hf
  refine m_callV (As := [.ref (ad L (gR S (gR S a0 9) 5))]) (rest := []) C hW ha0 (cX5_takeName_ok  ha0 hk2 h8) mlX5_191 (by decide) rfl hl.1 rfl (Nat.le_of_ble_eq_true rfl) (Nat.le_of_ble_eq_true rfl) (Nat.le_of_ble_eq_true rfl) dX5_readDoing_18 (fun H locs hW => ?_)
  refine lv_aload_n C.1 C.2.1 dX5_readDoing_21 rfl (lv_at hl 0 rfl) ?_
  refine lv_iconst C.1 C.2.1 dX5_readDoing_22 ic_1 ?_
  refine lv_aload_n C.1 C.2.1 dX5_readDoing_23 rfl (lv_at hl 1 rfl) ?_
  refine lv_iconst C.1 C.2.1 dX5_readDoing_24 ic_0 ?_
  refine lv_iconst C.1 C.2.1 dX5_readDoing_25 ic_1 ?_
  obtain ⟨q9, h10, hf⟩ := bd hf
  refine m_callV (As := [.int (0 : Int32), .int (1 : Int32)]) (rest := [.int (1 : Int32), .ref (ad L (gR S (gR S a0 9) 5))]) C hW ha0 (cX5_number_ok  ha0 h10) mlX5_134 (by decide) rfl hl.1 rfl (Nat.le_of_ble_eq_true rfl) (Nat.le_of_ble_eq_true rfl) (Nat.le_of_ble_eq_true rfl) dX5_readDoing_26 (fun H locs hW => ?_)
  obtain ⟨q11, h12, hf⟩ := bd hf
  refine m_callV (As := [.int (1 : Int32), .int q9.1]) (rest := []) C hW hk2 (cX7_put_ok  hk2 h12) mlX5_182 (by decide) rfl hl.1 rfl (Nat.le_of_ble_eq_true rfl) (Nat.le_of_ble_eq_true rfl) (Nat.le_of_ble_eq_true rfl) dX5_readDoing_29 (fun H locs hW => ?_)
  refine lv_aload_n C.1 C.2.1 dX5_readDoing_32 rfl (lv_at hl 0 rfl) ?_
  refine lv_iconst C.1 C.2.1 dX5_readDoing_33 ic_2 ?_
  refine lv_aload_n C.1 C.2.1 dX5_readDoing_34 rfl (lv_at hl 1 rfl) ?_
  refine lv_iconst C.1 C.2.1 dX5_readDoing_35 ic_0 ?_
  refine lv_aload_n C.1 C.2.1 dX5_readDoing_36 rfl (lv_at hl 1 rfl) ?_
  refine m_getr C hW ha0 flX5_24 (by decide) dX5_readDoing_37 (fun hk13 => ?_)
  refine m_geti C hW hk13 flX5_137 dX5_readDoing_40 ?_
  refine lv_iconst C.1 C.2.1 dX5_readDoing_43 ic_1 ?_
  refine lv_isub C.1 C.2.1 dX5_readDoing_44 ?_
  obtain ⟨q14, h15, hf⟩ := bd hf
  refine m_callV (As := [.int (0 : Int32), .int ((gI q11 (gR q11 a0 9) 8) - (1 : Int32))]) (rest := [.int (2 : Int32), .ref (ad L (gR S (gR S a0 9) 5))]) C hW ha0 (cX5_number_ok  ha0 h15) mlX5_134 (by decide) rfl hl.1 rfl (Nat.le_of_ble_eq_true rfl) (Nat.le_of_ble_eq_true rfl) (Nat.le_of_ble_eq_true rfl) dX5_readDoing_45 (fun H locs hW => ?_)
  obtain ⟨q16, h17, hf⟩ := bd hf
  refine m_callV (As := [.int (2 : Int32), .int q14.1]) (rest := []) C hW hk2 (cX7_put_ok  hk2 h17) mlX5_182 (by decide) rfl hl.1 rfl (Nat.le_of_ble_eq_true rfl) (Nat.le_of_ble_eq_true rfl) (Nat.le_of_ble_eq_true rfl) dX5_readDoing_48 (fun H locs hW => ?_)
  refine lv_aload_n C.1 C.2.1 dX5_readDoing_51 rfl (lv_at hl 0 rfl) ?_
  refine lv_iconst C.1 C.2.1 dX5_readDoing_52 ic_3 ?_
  refine lv_aload_n C.1 C.2.1 dX5_readDoing_53 rfl (lv_at hl 1 rfl) ?_
  refine lv_iconst C.1 C.2.1 dX5_readDoing_54 ic_0 ?_
  refine lv_aload_n C.1 C.2.1 dX5_readDoing_55 rfl (lv_at hl 1 rfl) ?_
  refine m_getr C hW ha0 flX5_24 (by decide) dX5_readDoing_56 (fun hk18 => ?_)
  refine m_geti C hW hk18 flX5_140 dX5_readDoing_59 ?_
  refine lv_iconst C.1 C.2.1 dX5_readDoing_62 ic_1 ?_
  refine lv_isub C.1 C.2.1 dX5_readDoing_63 ?_
  obtain ⟨q19, h20, hf⟩ := bd hf
  refine m_callV (As := [.int (0 : Int32), .int ((gI q16 (gR q16 a0 9) 9) - (1 : Int32))]) (rest := [.int (3 : Int32), .ref (ad L (gR S (gR S a0 9) 5))]) C hW ha0 (cX5_number_ok  ha0 h20) mlX5_134 (by decide) rfl hl.1 rfl (Nat.le_of_ble_eq_true rfl) (Nat.le_of_ble_eq_true rfl) (Nat.le_of_ble_eq_true rfl) dX5_readDoing_64 (fun H locs hW => ?_)
  obtain ⟨q21, h22, hf⟩ := bd hf
  refine m_callV (As := [.int (3 : Int32), .int q19.1]) (rest := []) C hW hk2 (cX7_put_ok  hk2 h22) mlX5_182 (by decide) rfl hl.1 rfl (Nat.le_of_ble_eq_true rfl) (Nat.le_of_ble_eq_true rfl) (Nat.le_of_ble_eq_true rfl) dX5_readDoing_67 (fun H locs hW => ?_)
  refine lv_aload_n C.1 C.2.1 dX5_readDoing_70 rfl (lv_at hl 0 rfl) ?_
  refine lv_iconst C.1 C.2.1 dX5_readDoing_71 ic_4 ?_
  refine lv_aload_n C.1 C.2.1 dX5_readDoing_72 rfl (lv_at hl 1 rfl) ?_
  refine lv_iconst C.1 C.2.1 dX5_readDoing_73 ic_1 ?_
  refine lv_bipush C.1 C.2.1 dX5_readDoing_74 bp_99 ?_
  obtain ⟨q23, h24, hf⟩ := bd hf
  refine m_callV (As := [.int (1 : Int32), .int (99 : Int32)]) (rest := [.int (4 : Int32), .ref (ad L (gR S (gR S a0 9) 5))]) C hW ha0 (cX5_number_ok  ha0 h24) mlX5_134 (by decide) rfl hl.1 rfl (Nat.le_of_ble_eq_true rfl) (Nat.le_of_ble_eq_true rfl) (Nat.le_of_ble_eq_true rfl) dX5_readDoing_76 (fun H locs hW => ?_)
  obtain ⟨q25, h26, hf⟩ := bd hf
  refine m_callV (As := [.int (4 : Int32), .int q23.1]) (rest := []) C hW hk2 (cX7_put_ok  hk2 h26) mlX5_182 (by decide) rfl hl.1 rfl (Nat.le_of_ble_eq_true rfl) (Nat.le_of_ble_eq_true rfl) (Nat.le_of_ble_eq_true rfl) dX5_readDoing_79 (fun H locs hW => ?_)
  refine lv_aload_n C.1 C.2.1 dX5_readDoing_82 rfl (lv_at hl 0 rfl) ?_
  obtain ⟨q27, h28, hf⟩ := bd hf
  refine m_callV (As := []) (rest := []) C hW hk2 (cX7_close_ok  hk2 h28) mlX5_185 (by decide) rfl hl.1 rfl (Nat.le_of_ble_eq_true rfl) (Nat.le_of_ble_eq_true rfl) (Nat.le_of_ble_eq_true rfl) dX5_readDoing_83 (fun H locs hW => ?_)
  cases hf
  exact m_vret C hW dX5_readDoing_86

def fX5_readMan (a0 : Nat) (S : MS) : Option MS := (fX7_isFull  (gR S (gR S a0 9) 6) S).bind fun q3 => (fX5_takeWord  a0 q3 S).bind fun q5 => (fX5_takeName  a0 (gR S (gR S a0 9) 6) q5).bind fun q7 => (fX5_number  a0 (0 : Int32) ((gI q7 (gR q7 a0 9) 8) - (1 : Int32)) q7).bind fun q10 => (fX7_put  (gR S (gR S a0 9) 6) (1 : Int32) q10.1 q10.2).bind fun q12 => (fX5_number  a0 (0 : Int32) ((gI q12 (gR q12 a0 9) 9) - (1 : Int32)) q12).bind fun q15 => (fX7_put  (gR S (gR S a0 9) 6) (2 : Int32) q15.1 q15.2).bind fun q17 => (fX7_close  (gR S (gR S a0 9) 6) q17).bind fun q19 => some q19
set_option maxRecDepth 100000 in
theorem cX5_readMan_ok {l : Launch} {G : Gv} {L : List Nat} {S : MS} {a0 : Nat} {q : MS} (ha0 : a0 < shX.1 ∧ shX.2.1 a0 = 5) (hf : fX5_readMan a0 S = some q) : Mt l yX5_readMan cX5_readMan 2 none (5) G shX L S [.ref (ad L a0)] none q := by
  refine m_enter (lv := [(0, .ref (ad L a0))]) (plainFor_of_name (by decide)) (Nat.le_of_ble_eq_true rfl) rfl ?_
  intro p e s m below meth c A ls C hW hl
  unfold fX5_readMan at hf
  refine lv_aload_n C.1 C.2.1 dX5_readMan_0 rfl (lv_at hl 0 rfl) ?_
  refine m_getr C hW ha0 flX5_24 (by decide) dX5_readMan_1 (fun hk1 => ?_)
  refine m_getr C hW hk1 flX5_201 (by decide) dX5_readMan_4 (fun hk2 => ?_)
  refine lv_astore_n (lv' := [(1, .ref (ad L (gR S (gR S a0 9) 6))), (0, .ref (ad L a0))]) C.1 C.2.1 dX5_readMan_7 rfl hl (by decide) rfl (fun ls hl => ?_)
  refine lv_aload_n C.1 C.2.1 dX5_readMan_8 rfl (lv_at hl 1 rfl) ?_
  refine lv_aload_n C.1 C.2.1 dX5_readMan_9 rfl (lv_at hl 0 rfl) ?_
  obtain ⟨q3, h4, hf⟩ := bd hf
  refine m_callV (As := []) (rest := [.ref (ad L a0)]) C hW hk2 (cX7_isFull_ok  hk2 h4) mlX5_173 (by decide) rfl hl.1 rfl (Nat.le_of_ble_eq_true rfl) (Nat.le_of_ble_eq_true rfl) (Nat.le_of_ble_eq_true rfl) dX5_readMan_10 (fun H locs hW => ?_)
  obtain ⟨q5, h6, hf⟩ := bd hf
  refine m_callV (As := [.int q3]) (rest := []) C hW ha0 (cX5_takeWord_ok  ha0 h6) mlX5_156 (by decide) rfl hl.1 rfl (Nat.le_of_ble_eq_true rfl) (Nat.le_of_ble_eq_true rfl) (Nat.le_of_ble_eq_true rfl) dX5_readMan_13 (fun H locs hW => ?_)
  refine lv_aload_n C.1 C.2.1 dX5_readMan_16 rfl (lv_at hl 1 rfl) ?_
  refine lv_aload_n C.1 C.2.1 dX5_readMan_17 rfl (lv_at hl 0 rfl) ?_
  obtain ⟨q7, h8, hf⟩ := bd hf
  refine m_callV (As := [.ref (ad L (gR S (gR S a0 9) 6))]) (rest := []) C hW ha0 (cX5_takeName_ok  ha0 hk2 h8) mlX5_191 (by decide) rfl hl.1 rfl (Nat.le_of_ble_eq_true rfl) (Nat.le_of_ble_eq_true rfl) (Nat.le_of_ble_eq_true rfl) dX5_readMan_18 (fun H locs hW => ?_)
  refine lv_aload_n C.1 C.2.1 dX5_readMan_21 rfl (lv_at hl 0 rfl) ?_
  refine lv_iconst C.1 C.2.1 dX5_readMan_22 ic_1 ?_
  refine lv_aload_n C.1 C.2.1 dX5_readMan_23 rfl (lv_at hl 1 rfl) ?_
  refine lv_iconst C.1 C.2.1 dX5_readMan_24 ic_0 ?_
  refine lv_aload_n C.1 C.2.1 dX5_readMan_25 rfl (lv_at hl 1 rfl) ?_
  refine m_getr C hW ha0 flX5_24 (by decide) dX5_readMan_26 (fun hk9 => ?_)
  refine m_geti C hW hk9 flX5_137 dX5_readMan_29 ?_
  refine lv_iconst C.1 C.2.1 dX5_readMan_32 ic_1 ?_
  refine lv_isub C.1 C.2.1 dX5_readMan_33 ?_
  obtain ⟨q10, h11, hf⟩ := bd hf
  refine m_callV (As := [.int (0 : Int32), .int ((gI q7 (gR q7 a0 9) 8) - (1 : Int32))]) (rest := [.int (1 : Int32), .ref (ad L (gR S (gR S a0 9) 6))]) C hW ha0 (cX5_number_ok  ha0 h11) mlX5_134 (by decide) rfl hl.1 rfl (Nat.le_of_ble_eq_true rfl) (Nat.le_of_ble_eq_true rfl) (Nat.le_of_ble_eq_true rfl) dX5_readMan_34 (fun H locs hW => ?_)
  obtain ⟨q12, h13, hf⟩ := bd hf
  refine m_callV (As := [.int (1 : Int32), .int q10.1]) (rest := []) C hW hk2 (cX7_put_ok  hk2 h13) mlX5_182 (by decide) rfl hl.1 rfl (Nat.le_of_ble_eq_true rfl) (Nat.le_of_ble_eq_true rfl) (Nat.le_of_ble_eq_true rfl) dX5_readMan_37 (fun H locs hW => ?_)
  refine lv_aload_n C.1 C.2.1 dX5_readMan_40 rfl (lv_at hl 0 rfl) ?_
  refine lv_iconst C.1 C.2.1 dX5_readMan_41 ic_2 ?_
  refine lv_aload_n C.1 C.2.1 dX5_readMan_42 rfl (lv_at hl 1 rfl) ?_
  refine lv_iconst C.1 C.2.1 dX5_readMan_43 ic_0 ?_
  refine lv_aload_n C.1 C.2.1 dX5_readMan_44 rfl (lv_at hl 1 rfl) ?_
  refine m_getr C hW ha0 flX5_24 (by decide) dX5_readMan_45 (fun hk14 => ?_)
  refine m_geti C hW hk14 flX5_140 dX5_readMan_48 ?_
  refine lv_iconst C.1 C.2.1 dX5_readMan_51 ic_1 ?_
  refine lv_isub C.1 C.2.1 dX5_readMan_52 ?_
  obtain ⟨q15, h16, hf⟩ := bd hf
  refine m_callV (As := [.int (0 : Int32), .int ((gI q12 (gR q12 a0 9) 9) - (1 : Int32))]) (rest := [.int (2 : Int32), .ref (ad L (gR S (gR S a0 9) 6))]) C hW ha0 (cX5_number_ok  ha0 h16) mlX5_134 (by decide) rfl hl.1 rfl (Nat.le_of_ble_eq_true rfl) (Nat.le_of_ble_eq_true rfl) (Nat.le_of_ble_eq_true rfl) dX5_readMan_53 (fun H locs hW => ?_)
  obtain ⟨q17, h18, hf⟩ := bd hf
  refine m_callV (As := [.int (2 : Int32), .int q15.1]) (rest := []) C hW hk2 (cX7_put_ok  hk2 h18) mlX5_182 (by decide) rfl hl.1 rfl (Nat.le_of_ble_eq_true rfl) (Nat.le_of_ble_eq_true rfl) (Nat.le_of_ble_eq_true rfl) dX5_readMan_56 (fun H locs hW => ?_)
  refine lv_aload_n C.1 C.2.1 dX5_readMan_59 rfl (lv_at hl 0 rfl) ?_
  obtain ⟨q19, h20, hf⟩ := bd hf
  refine m_callV (As := []) (rest := []) C hW hk2 (cX7_close_ok  hk2 h20) mlX5_185 (by decide) rfl hl.1 rfl (Nat.le_of_ble_eq_true rfl) (Nat.le_of_ble_eq_true rfl) (Nat.le_of_ble_eq_true rfl) dX5_readMan_60 (fun H locs hW => ?_)
  cases hf
  exact m_vret C hW dX5_readMan_63

def fX5_readCloud (a0 : Nat) (S : MS) : Option MS := (fX5_once  a0 (gI S a0 14) S).bind fun q1 => (fX5_number  a0 (0 : Int32) (100 : Int32) (pI q1 a0 14 (1 : Int32))).bind fun q4 => some (pI q4.2 (gR (pI q1 a0 14 (1 : Int32)) a0 9) 13 q4.1)
set_option maxRecDepth 100000 in
theorem cX5_readCloud_ok {l : Launch} {G : Gv} {L : List Nat} {S : MS} {a0 : Nat} {q : MS} (ha0 : a0 < shX.1 ∧ shX.2.1 a0 = 5) (hf : fX5_readCloud a0 S = some q) : Mt l yX5_readCloud cX5_readCloud 1 none (5) G shX L S [.ref (ad L a0)] none q := by
  refine m_enter (lv := [(0, .ref (ad L a0))]) (plainFor_of_name (by decide)) (Nat.le_of_ble_eq_true rfl) rfl ?_
  intro p e s m below meth c A ls C hW hl
  unfold fX5_readCloud at hf
  refine lv_aload_n C.1 C.2.1 dX5_readCloud_0 rfl (lv_at hl 0 rfl) ?_
  refine lv_aload_n C.1 C.2.1 dX5_readCloud_1 rfl (lv_at hl 0 rfl) ?_
  refine m_geti C hW ha0 flX5_72 dX5_readCloud_2 ?_
  obtain ⟨q1, h2, hf⟩ := bd hf
  refine m_callV (As := [.int (gI S a0 14)]) (rest := []) C hW ha0 (cX5_once_ok  ha0 h2) mlX5_146 (by decide) rfl hl.1 rfl (Nat.le_of_ble_eq_true rfl) (Nat.le_of_ble_eq_true rfl) (Nat.le_of_ble_eq_true rfl) dX5_readCloud_5 (fun H locs hW => ?_)
  refine lv_aload_n C.1 C.2.1 dX5_readCloud_8 rfl (lv_at hl 0 rfl) ?_
  refine lv_iconst C.1 C.2.1 dX5_readCloud_9 ic_1 ?_
  refine m_putz C hW ha0 fpX5_72 rfl dX5_readCloud_10 (fun H locs hW => ?_)
  refine lv_aload_n C.1 C.2.1 dX5_readCloud_13 rfl (lv_at hl 0 rfl) ?_
  refine m_getr C hW ha0 flX5_24 (by decide) dX5_readCloud_14 (fun hk3 => ?_)
  refine lv_aload_n C.1 C.2.1 dX5_readCloud_17 rfl (lv_at hl 0 rfl) ?_
  refine lv_iconst C.1 C.2.1 dX5_readCloud_18 ic_0 ?_
  refine lv_bipush C.1 C.2.1 dX5_readCloud_19 bp_100 ?_
  obtain ⟨q4, h5, hf⟩ := bd hf
  refine m_callV (As := [.int (0 : Int32), .int (100 : Int32)]) (rest := [.ref (ad L (gR (pI q1 a0 14 (1 : Int32)) a0 9))]) C hW ha0 (cX5_number_ok  ha0 h5) mlX5_134 (by decide) rfl hl.1 rfl (Nat.le_of_ble_eq_true rfl) (Nat.le_of_ble_eq_true rfl) (Nat.le_of_ble_eq_true rfl) dX5_readCloud_21 (fun H locs hW => ?_)
  refine m_puti C hW hk3 fpX5_204 dX5_readCloud_24 (fun H locs hW => ?_)
  cases hf
  exact m_vret C hW dX5_readCloud_27

def fX5_readSeed (a0 : Nat) (S : MS) : Option MS := (fX5_once  a0 (gI S a0 15) S).bind fun q1 => (fX5_number  a0 (0 : Int32) (99999 : Int32) (pI q1 a0 15 (1 : Int32))).bind fun q4 => some (pI q4.2 (gR (pI q1 a0 15 (1 : Int32)) a0 9) 14 q4.1)
set_option maxRecDepth 100000 in
theorem cX5_readSeed_ok {l : Launch} {G : Gv} {L : List Nat} {S : MS} {a0 : Nat} {q : MS} (ha0 : a0 < shX.1 ∧ shX.2.1 a0 = 5) (hf : fX5_readSeed a0 S = some q) : Mt l yX5_readSeed cX5_readSeed 1 none (5) G shX L S [.ref (ad L a0)] none q := by
  refine m_enter (lv := [(0, .ref (ad L a0))]) (plainFor_of_name (by decide)) (Nat.le_of_ble_eq_true rfl) rfl ?_
  intro p e s m below meth c A ls C hW hl
  unfold fX5_readSeed at hf
  refine lv_aload_n C.1 C.2.1 dX5_readSeed_0 rfl (lv_at hl 0 rfl) ?_
  refine lv_aload_n C.1 C.2.1 dX5_readSeed_1 rfl (lv_at hl 0 rfl) ?_
  refine m_geti C hW ha0 flX5_75 dX5_readSeed_2 ?_
  obtain ⟨q1, h2, hf⟩ := bd hf
  refine m_callV (As := [.int (gI S a0 15)]) (rest := []) C hW ha0 (cX5_once_ok  ha0 h2) mlX5_146 (by decide) rfl hl.1 rfl (Nat.le_of_ble_eq_true rfl) (Nat.le_of_ble_eq_true rfl) (Nat.le_of_ble_eq_true rfl) dX5_readSeed_5 (fun H locs hW => ?_)
  refine lv_aload_n C.1 C.2.1 dX5_readSeed_8 rfl (lv_at hl 0 rfl) ?_
  refine lv_iconst C.1 C.2.1 dX5_readSeed_9 ic_1 ?_
  refine m_putz C hW ha0 fpX5_75 rfl dX5_readSeed_10 (fun H locs hW => ?_)
  refine lv_aload_n C.1 C.2.1 dX5_readSeed_13 rfl (lv_at hl 0 rfl) ?_
  refine m_getr C hW ha0 flX5_24 (by decide) dX5_readSeed_14 (fun hk3 => ?_)
  refine lv_aload_n C.1 C.2.1 dX5_readSeed_17 rfl (lv_at hl 0 rfl) ?_
  refine lv_iconst C.1 C.2.1 dX5_readSeed_18 ic_0 ?_
  refine lv_ldc C.1 C.2.1 C.2.2.2.1 (C.2.2.2.2.1 _ kw_819) dX5_readSeed_19 ?_
  obtain ⟨q4, h5, hf⟩ := bd hf
  refine m_callV (As := [.int (0 : Int32), .int (99999 : Int32)]) (rest := [.ref (ad L (gR (pI q1 a0 15 (1 : Int32)) a0 9))]) C hW ha0 (cX5_number_ok  ha0 h5) mlX5_134 (by decide) rfl hl.1 rfl (Nat.le_of_ble_eq_true rfl) (Nat.le_of_ble_eq_true rfl) (Nat.le_of_ble_eq_true rfl) dX5_readSeed_21 (fun H locs hW => ?_)
  refine m_puti C hW hk3 fpX5_208 dX5_readSeed_24 (fun H locs hW => ?_)
  cases hf
  exact m_vret C hW dX5_readSeed_27

def fX5_readE_94  (x0 : Nat) (S : MS) : Option MS := (fX5_release  x0 (1 : Int32) S).bind fun q1 => (if (gI q1 x0 12) ≤ (0 : Int32) then some q1 else (fX5_fail  x0 (1 : Int32) (gI q1 x0 7) q1).bind fun q4 => some q4)
def fX5_readE_88 (K14 : Nat → Int32 → Int32 → MS → Option MS) (x0 : Nat) (x1 : Int32) (x2 : Int32) (S : MS) : Option MS := K14 x0 x1 (x2 + (1 : Int32)) S
def fX5_readE_63 (K14 : Nat → Int32 → Int32 → MS → Option MS) (x0 : Nat) (x2 : Int32) (S : MS) : Option MS := (fX5_rankOf  (gI S x0 5) S).bind fun q6 => (if q6 ≤ (0 : Int32) then fX5_readE_94  x0 S else (if gI S x0 5 = (36 : Int32) then fX5_readE_94  x0 S else (fX5_takeSign  x0 S).bind fun q10 => fX5_readE_88 K14 x0 (1 : Int32) x2 q10))
def fX5_readE_14  : Nat → Nat → Int32 → Int32 → MS → Option MS
  | 0, _, _, _, _ => none
  | n + 1, x0, x1, x2, S => (if (700 : Int32) ≤ x2 then fX5_readE_94  x0 S else (if gI S x0 16 = (0 : Int32) then (if x1 = (0 : Int32) then (if gI S x0 5 = (6 : Int32) then (if (gI S x0 12) ≤ (0 : Int32) then fX5_readE_63 (fX5_readE_14  n) x0 x2 S else (fX5_takeClose  x0 S).bind fun q17 => fX5_readE_88 (fX5_readE_14  n) x0 x1 x2 q17) else fX5_readE_63 (fX5_readE_14  n) x0 x2 S) else (fX5_takePart  x0 S).bind fun q19 => fX5_readE_88 (fX5_readE_14  n) x0 q19.1 x2 q19.2) else fX5_readE_94  x0 S))
def fX5_readE (a0 : Nat) (S : MS) : Option MS := fX5_readE_14  1000 a0 (1 : Int32) (0 : Int32) (pI (pI S a0 11 (0 : Int32)) a0 12 (0 : Int32))
set_option maxRecDepth 100000 in
theorem kX5_readE_94 {p : Program} {l : Launch} {e : Env} {s : State} {m : MethodId} {av : Array Value} {below : List Frame} {meth : Method} {c : Code} {A : Nat → Prop} {G : Gv} {L : List Nat} {q : MS}  (C : mC p s m av meth c cX5_readE RX5 3 none) : ∀ (x0 : Nat) (S : MS) (H : Heap) (locs : List Loc) (ls : Array Slot), (x0 < shX.1 ∧ shX.2.1 x0 = 5) → mW G shX L S A s H locs → lv_has ls 3 [(0, .ref (ad L x0))] → fX5_readE_94  x0 S = some q → W p l e (rmd (5)) s m av below meth c H locs 0 0 (MQ below (mQ G shX L q none A) av s 0 0 A) (F0 m 94 ls []) := by
  intro x0 S H locs ls hx0 hW hl hf
  unfold fX5_readE_94 at hf
  refine lv_aload_n C.1 C.2.1 dX5_readE_94 rfl (lv_at hl 0 rfl) ?_
  refine lv_iconst C.1 C.2.1 dX5_readE_95 ic_1 ?_
  obtain ⟨q1, h2, hf⟩ := bd hf
  refine m_callV (As := [.int (1 : Int32)]) (rest := []) C hW hx0 (cX5_release_ok  hx0 h2) mlX5_239 (by decide) rfl hl.1 rfl (Nat.le_of_ble_eq_true rfl) (Nat.le_of_ble_eq_true rfl) (Nat.le_of_ble_eq_true rfl) dX5_readE_96 (fun H locs hW => ?_)
  refine lv_aload_n C.1 C.2.1 dX5_readE_99 rfl (lv_at hl 0 rfl) ?_
  refine m_geti C hW hx0 flX5_223 dX5_readE_100 ?_
  refine lv_if_le (tgt := 115) C.1 C.2.1 dX5_readE_103 rfl (fun c3 => ?_) (fun c3 => ?_)
  · have hf := (if_pos c3).symm.trans hf
    cases hf
    exact m_vret C hW dX5_readE_115
  · have hf := (if_neg c3).symm.trans hf
    refine lv_aload_n C.1 C.2.1 dX5_readE_106 rfl (lv_at hl 0 rfl) ?_
    refine lv_iconst C.1 C.2.1 dX5_readE_107 ic_1 ?_
    refine lv_aload_n C.1 C.2.1 dX5_readE_108 rfl (lv_at hl 0 rfl) ?_
    refine m_geti C hW hx0 flX5_62 dX5_readE_109 ?_
    obtain ⟨q4, h5, hf⟩ := bd hf
    refine m_callV (As := [.int (1 : Int32), .int (gI q1 x0 7)]) (rest := []) C hW hx0 (cX5_fail_ok  hx0 h5) mlX5_93 (by decide) rfl hl.1 rfl (Nat.le_of_ble_eq_true rfl) (Nat.le_of_ble_eq_true rfl) (Nat.le_of_ble_eq_true rfl) dX5_readE_112 (fun H locs hW => ?_)
    cases hf
    exact m_vret C hW dX5_readE_115

set_option maxRecDepth 100000 in
theorem kX5_readE_88 {p : Program} {l : Launch} {e : Env} {s : State} {m : MethodId} {av : Array Value} {below : List Frame} {meth : Method} {c : Code} {A : Nat → Prop} {G : Gv} {L : List Nat} {q : MS} {K14 : Nat → Int32 → Int32 → MS → Option MS} (hK14 : ∀ (x0 : Nat) (x1 : Int32) (x2 : Int32) (S : MS) (H : Heap) (locs : List Loc) (ls : Array Slot), (x0 < shX.1 ∧ shX.2.1 x0 = 5) → mW G shX L S A s H locs → lv_has ls 3 [(0, .ref (ad L x0)), (1, .int x1), (2, .int x2)] → K14 x0 x1 x2 S = some q → W p l e (rmd (5)) s m av below meth c H locs 0 0 (MQ below (mQ G shX L q none A) av s 0 0 A) (F0 m 14 ls [])) (C : mC p s m av meth c cX5_readE RX5 3 none) : ∀ (x0 : Nat) (x1 : Int32) (x2 : Int32) (S : MS) (H : Heap) (locs : List Loc) (ls : Array Slot), (x0 < shX.1 ∧ shX.2.1 x0 = 5) → mW G shX L S A s H locs → lv_has ls 3 [(0, .ref (ad L x0)), (1, .int x1), (2, .int x2)] → fX5_readE_88 K14 x0 x1 x2 S = some q → W p l e (rmd (5)) s m av below meth c H locs 0 0 (MQ below (mQ G shX L q none A) av s 0 0 A) (F0 m 88 ls []) := by
  intro x0 x1 x2 S H locs ls hx0 hW hl hf
  unfold fX5_readE_88 at hf
  refine lv_iinc (v := x2 + (1 : Int32)) (lv' := [(2, .int (x2 + (1 : Int32))), (0, .ref (ad L x0)), (1, .int x1)]) C.1 C.2.1 dX5_readE_88 hl (k := 2) rfl (congrArg (fun z => x2 + z) ic_1) (by decide) rfl (fun ls hl => ?_)
  refine lv_goto (tgt := 14) C.1 C.2.1 dX5_readE_91 rfl ?_
  exact hK14 x0 x1 (x2 + (1 : Int32)) _ _ _ _ hx0 hW (lv_sub hl [1, 2, 0] rfl) hf

set_option maxRecDepth 100000 in
theorem kX5_readE_63 {p : Program} {l : Launch} {e : Env} {s : State} {m : MethodId} {av : Array Value} {below : List Frame} {meth : Method} {c : Code} {A : Nat → Prop} {G : Gv} {L : List Nat} {q : MS} {K14 : Nat → Int32 → Int32 → MS → Option MS} (hK14 : ∀ (x0 : Nat) (x1 : Int32) (x2 : Int32) (S : MS) (H : Heap) (locs : List Loc) (ls : Array Slot), (x0 < shX.1 ∧ shX.2.1 x0 = 5) → mW G shX L S A s H locs → lv_has ls 3 [(0, .ref (ad L x0)), (1, .int x1), (2, .int x2)] → K14 x0 x1 x2 S = some q → W p l e (rmd (5)) s m av below meth c H locs 0 0 (MQ below (mQ G shX L q none A) av s 0 0 A) (F0 m 14 ls [])) (C : mC p s m av meth c cX5_readE RX5 3 none) : ∀ (x0 : Nat) (x2 : Int32) (S : MS) (H : Heap) (locs : List Loc) (ls : Array Slot), (x0 < shX.1 ∧ shX.2.1 x0 = 5) → mW G shX L S A s H locs → lv_has ls 3 [(0, .ref (ad L x0)), (2, .int x2)] → fX5_readE_63 K14 x0 x2 S = some q → W p l e (rmd (5)) s m av below meth c H locs 0 0 (MQ below (mQ G shX L q none A) av s 0 0 A) (F0 m 63 ls []) := by
  intro x0 x2 S H locs ls hx0 hW hl hf
  unfold fX5_readE_63 at hf
  refine lv_aload_n C.1 C.2.1 dX5_readE_63 rfl (lv_at hl 0 rfl) ?_
  refine m_geti C hW hx0 flX5_90 dX5_readE_64 ?_
  obtain ⟨q6, h7, hf⟩ := bd hf
  refine m_callS (As := [.int (gI S x0 5)]) (rest := []) C hW (cX5_rankOf_ok   h7) mlX5_232 rfl hl.1 rfl (Nat.le_of_ble_eq_true rfl) (Nat.le_of_ble_eq_true rfl) (Nat.le_of_ble_eq_true rfl) dX5_readE_67 (fun H locs hW => ?_)
  refine lv_if_le (tgt := 94) C.1 C.2.1 dX5_readE_70 rfl (fun c8 => ?_) (fun c8 => ?_)
  · have hf := (if_pos c8).symm.trans hf
    exact kX5_readE_94  C x0 _ _ _ _ hx0 hW (lv_sub hl [0] rfl) hf
  · have hf := (if_neg c8).symm.trans hf
    refine lv_aload_n C.1 C.2.1 dX5_readE_73 rfl (lv_at hl 0 rfl) ?_
    refine m_geti C hW hx0 flX5_90 dX5_readE_74 ?_
    refine lv_bipush C.1 C.2.1 dX5_readE_77 bp_36 ?_
    refine lv_icmp_eq (tgt := 94) C.1 C.2.1 dX5_readE_79 rfl (fun c9 => ?_) (fun c9 => ?_)
    · have hf := (if_pos c9).symm.trans hf
      exact kX5_readE_94  C x0 _ _ _ _ hx0 hW (lv_sub hl [0] rfl) hf
    · have hf := (if_neg c9).symm.trans hf
      refine lv_aload_n C.1 C.2.1 dX5_readE_82 rfl (lv_at hl 0 rfl) ?_
      obtain ⟨q10, h11, hf⟩ := bd hf
      refine m_callV (As := []) (rest := []) C hW hx0 (cX5_takeSign_ok  hx0 h11) mlX5_236 (by decide) rfl hl.1 rfl (Nat.le_of_ble_eq_true rfl) (Nat.le_of_ble_eq_true rfl) (Nat.le_of_ble_eq_true rfl) dX5_readE_83 (fun H locs hW => ?_)
      refine lv_iconst C.1 C.2.1 dX5_readE_86 ic_1 ?_
      refine lv_istore_n (lv' := [(1, .int (1 : Int32)), (0, .ref (ad L x0)), (2, .int x2)]) C.1 C.2.1 dX5_readE_87 rfl hl (by decide) rfl (fun ls hl => ?_)
      exact kX5_readE_88 hK14 C x0 (1 : Int32) x2 _ _ _ _ hx0 hW (lv_sub hl [1, 0, 2] rfl) hf

set_option maxRecDepth 100000 in
theorem kX5_readE_14 {p : Program} {l : Launch} {e : Env} {s : State} {m : MethodId} {av : Array Value} {below : List Frame} {meth : Method} {c : Code} {A : Nat → Prop} {G : Gv} {L : List Nat} {q : MS}  (C : mC p s m av meth c cX5_readE RX5 3 none) : ∀ (n : Nat) (x0 : Nat) (x1 : Int32) (x2 : Int32) (S : MS) (H : Heap) (locs : List Loc) (ls : Array Slot), (x0 < shX.1 ∧ shX.2.1 x0 = 5) → mW G shX L S A s H locs → lv_has ls 3 [(0, .ref (ad L x0)), (1, .int x1), (2, .int x2)] → fX5_readE_14  n x0 x1 x2 S = some q → W p l e (rmd (5)) s m av below meth c H locs 0 0 (MQ below (mQ G shX L q none A) av s 0 0 A) (F0 m 14 ls []) := by
  intro n
  induction n with
  | zero =>
    intro x0 x1 x2 S H locs ls hx0 hW hl hf
    rw [fX5_readE_14] at hf
    cases hf
  | succ n ih =>
    intro x0 x1 x2 S H locs ls hx0 hW hl hf
    rw [fX5_readE_14] at hf
    refine lv_iload_n C.1 C.2.1 dX5_readE_14 rfl (lv_at hl 2 rfl) ?_
    refine lv_sipush C.1 C.2.1 dX5_readE_15 sp_700 ?_
    refine lv_icmp_ge (tgt := 94) C.1 C.2.1 dX5_readE_18 rfl (fun c12 => ?_) (fun c12 => ?_)
    · have hf := (if_pos c12).symm.trans hf
      exact kX5_readE_94  C x0 _ _ _ _ hx0 hW (lv_sub hl [0] rfl) hf
    · have hf := (if_neg c12).symm.trans hf
      refine lv_aload_n C.1 C.2.1 dX5_readE_21 rfl (lv_at hl 0 rfl) ?_
      refine m_geti C hW hx0 flX5_78 dX5_readE_22 ?_
      refine lv_if_ne (tgt := 94) C.1 C.2.1 dX5_readE_25 rfl (fun c13 => ?_) (fun c13 => ?_)
      · have hf := (if_neg c13).symm.trans hf
        exact kX5_readE_94  C x0 _ _ _ _ hx0 hW (lv_sub hl [0] rfl) hf
      · have hf := (if_pos c13).symm.trans hf
        refine lv_iload_n C.1 C.2.1 dX5_readE_28 rfl (lv_at hl 1 rfl) ?_
        refine lv_if_eq (tgt := 40) C.1 C.2.1 dX5_readE_29 rfl (fun c14 => ?_) (fun c14 => ?_)
        · have hf := (if_pos c14).symm.trans hf
          refine lv_aload_n C.1 C.2.1 dX5_readE_40 rfl (lv_at hl 0 rfl) ?_
          refine m_geti C hW hx0 flX5_90 dX5_readE_41 ?_
          refine lv_bipush C.1 C.2.1 dX5_readE_44 bp_6 ?_
          refine lv_icmp_ne (tgt := 63) C.1 C.2.1 dX5_readE_46 rfl (fun c15 => ?_) (fun c15 => ?_)
          · have hf := (if_neg c15).symm.trans hf
            exact kX5_readE_63 ih C x0 x2 _ _ _ _ hx0 hW (lv_sub hl [0, 2] rfl) hf
          · have hf := (if_pos c15).symm.trans hf
            refine lv_aload_n C.1 C.2.1 dX5_readE_49 rfl (lv_at hl 0 rfl) ?_
            refine m_geti C hW hx0 flX5_223 dX5_readE_50 ?_
            refine lv_if_le (tgt := 63) C.1 C.2.1 dX5_readE_53 rfl (fun c16 => ?_) (fun c16 => ?_)
            · have hf := (if_pos c16).symm.trans hf
              exact kX5_readE_63 ih C x0 x2 _ _ _ _ hx0 hW (lv_sub hl [0, 2] rfl) hf
            · have hf := (if_neg c16).symm.trans hf
              refine lv_aload_n C.1 C.2.1 dX5_readE_56 rfl (lv_at hl 0 rfl) ?_
              obtain ⟨q17, h18, hf⟩ := bd hf
              refine m_callV (As := []) (rest := []) C hW hx0 (cX5_takeClose_ok  hx0 h18) mlX5_229 (by decide) rfl hl.1 rfl (Nat.le_of_ble_eq_true rfl) (Nat.le_of_ble_eq_true rfl) (Nat.le_of_ble_eq_true rfl) dX5_readE_57 (fun H locs hW => ?_)
              refine lv_goto (tgt := 88) C.1 C.2.1 dX5_readE_60 rfl ?_
              exact kX5_readE_88 ih C x0 x1 x2 _ _ _ _ hx0 hW (lv_sub hl [0, 1, 2] rfl) hf
        · have hf := (if_neg c14).symm.trans hf
          refine lv_aload_n C.1 C.2.1 dX5_readE_32 rfl (lv_at hl 0 rfl) ?_
          obtain ⟨q19, h20, hf⟩ := bd hf
          refine m_callV (As := []) (rest := []) C hW hx0 (cX5_takePart_ok  hx0 h20) mlX5_226 (by decide) rfl hl.1 rfl (Nat.le_of_ble_eq_true rfl) (Nat.le_of_ble_eq_true rfl) (Nat.le_of_ble_eq_true rfl) dX5_readE_33 (fun H locs hW => ?_)
          refine lv_istore_n (lv' := [(1, .int q19.1), (0, .ref (ad L x0)), (2, .int x2)]) C.1 C.2.1 dX5_readE_36 rfl hl (by decide) rfl (fun ls hl => ?_)
          refine lv_goto (tgt := 88) C.1 C.2.1 dX5_readE_37 rfl ?_
          exact kX5_readE_88 ih C x0 q19.1 x2 _ _ _ _ hx0 hW (lv_sub hl [1, 0, 2] rfl) hf

set_option maxRecDepth 100000 in
theorem cX5_readE_ok {l : Launch} {G : Gv} {L : List Nat} {S : MS} {a0 : Nat} {q : MS} (ha0 : a0 < shX.1 ∧ shX.2.1 a0 = 5) (hf : fX5_readE a0 S = some q) : Mt l yX5_readE cX5_readE 3 none (5) G shX L S [.ref (ad L a0)] none q := by
  refine m_enter (lv := [(0, .ref (ad L a0))]) (plainFor_of_name (by decide)) (Nat.le_of_ble_eq_true rfl) rfl ?_
  intro p e s m below meth c A ls C hW hl
  unfold fX5_readE at hf
  refine lv_aload_n C.1 C.2.1 dX5_readE_0 rfl (lv_at hl 0 rfl) ?_
  refine lv_iconst C.1 C.2.1 dX5_readE_1 ic_0 ?_
  refine m_puti C hW ha0 fpX5_220 dX5_readE_2 (fun H locs hW => ?_)
  refine lv_aload_n C.1 C.2.1 dX5_readE_5 rfl (lv_at hl 0 rfl) ?_
  refine lv_iconst C.1 C.2.1 dX5_readE_6 ic_0 ?_
  refine m_puti C hW ha0 fpX5_223 dX5_readE_7 (fun H locs hW => ?_)
  refine lv_iconst C.1 C.2.1 dX5_readE_10 ic_1 ?_
  refine lv_istore_n (lv' := [(1, .int (1 : Int32)), (0, .ref (ad L a0))]) C.1 C.2.1 dX5_readE_11 rfl hl (by decide) rfl (fun ls hl => ?_)
  refine lv_iconst C.1 C.2.1 dX5_readE_12 ic_0 ?_
  refine lv_istore_n (lv' := [(2, .int (0 : Int32)), (1, .int (1 : Int32)), (0, .ref (ad L a0))]) C.1 C.2.1 dX5_readE_13 rfl hl (by decide) rfl (fun ls hl => ?_)
  exact kX5_readE_14  C 1000 a0 (1 : Int32) (0 : Int32) _ _ _ _ ha0 hW (lv_sub hl [2, 1, 0] rfl) hf

def fX10_step (a0 : Nat) (a1 : Int32) (S : MS) : Option (Int32 × MS) := (if a1 < (0 : Int32) then some ((-1 : Int32), S) else (if a1 < (4 : Int32) then (fX0_isOpen  (gR S a0 4) (gR S a0 9) a1 (0 : Int32) S).bind fun q5 => (if q5 = (0 : Int32) then some ((-2 : Int32), S) else (fX2_note  (gR S a0 7) (gR S a0 9) S).bind fun q10 => (fX0_attempt  (gR q10 a0 4) (gR q10 a0 9) a1 (0 : Int32) q10).bind fun q14 => some (gI q14 (gR q14 a0 9) 6, q14)) else some ((-1 : Int32), S)))
set_option maxRecDepth 100000 in
theorem cX10_step_ok {l : Launch} {G : Gv} {L : List Nat} {S : MS} {a0 : Nat} {a1 : Int32} {q : (Int32 × MS)} (ha0 : a0 < shX.1 ∧ shX.2.1 a0 = 10) (hf : fX10_step a0 a1 S = some q) : Mt l yX10_step cX10_step 2 (some .int) (5) G shX L S [.ref (ad L a0), .int a1] (some (.int q.1)) q.2 := by
  refine m_enter (lv := [(0, .ref (ad L a0)), (1, .int a1)]) (plainFor_of_name (by decide)) (Nat.le_of_ble_eq_true rfl) rfl ?_
  intro p e s m below meth c A ls C hW hl
  unfold fX10_step at hf
  refine lv_iload_n C.1 C.2.1 dX10_step_0 rfl (lv_at hl 1 rfl) ?_
  refine lv_if_lt (tgt := 9) C.1 C.2.1 dX10_step_1 rfl (fun c1 => ?_) (fun c1 => ?_)
  · have hf := (if_pos c1).symm.trans hf
    refine lv_iconst C.1 C.2.1 dX10_step_9 ic_m1 ?_
    cases hf
    exact m_iret C hW dX10_step_10
  · have hf := (if_neg c1).symm.trans hf
    refine lv_iload_n C.1 C.2.1 dX10_step_4 rfl (lv_at hl 1 rfl) ?_
    refine lv_iconst C.1 C.2.1 dX10_step_5 ic_4 ?_
    refine lv_icmp_lt (tgt := 11) C.1 C.2.1 dX10_step_6 rfl (fun c2 => ?_) (fun c2 => ?_)
    · have hf := (if_pos c2).symm.trans hf
      refine lv_aload_n C.1 C.2.1 dX10_step_11 rfl (lv_at hl 0 rfl) ?_
      refine m_getr C hW ha0 flX10_35 (by decide) dX10_step_12 (fun hk3 => ?_)
      refine lv_aload_n C.1 C.2.1 dX10_step_15 rfl (lv_at hl 0 rfl) ?_
      refine m_getr C hW ha0 flX10_72 (by decide) dX10_step_16 (fun hk4 => ?_)
      refine lv_iload_n C.1 C.2.1 dX10_step_19 rfl (lv_at hl 1 rfl) ?_
      refine lv_iconst C.1 C.2.1 dX10_step_20 ic_0 ?_
      obtain ⟨q5, h6, hf⟩ := bd hf
      refine m_callV (As := [.ref (ad L (gR S a0 9)), .int a1, .int (0 : Int32)]) (rest := []) C hW hk3 (cX0_isOpen_ok  hk3 hk4 h6) mlX10_244 (by decide) rfl hl.1 rfl (Nat.le_of_ble_eq_true rfl) (Nat.le_of_ble_eq_true rfl) (Nat.le_of_ble_eq_true rfl) dX10_step_21 (fun H locs hW => ?_)
      refine lv_if_ne (tgt := 30) C.1 C.2.1 dX10_step_24 rfl (fun c7 => ?_) (fun c7 => ?_)
      · have hf := (if_neg c7).symm.trans hf
        refine lv_aload_n C.1 C.2.1 dX10_step_30 rfl (lv_at hl 0 rfl) ?_
        refine m_getr C hW ha0 flX10_58 (by decide) dX10_step_31 (fun hk8 => ?_)
        refine lv_aload_n C.1 C.2.1 dX10_step_34 rfl (lv_at hl 0 rfl) ?_
        refine m_getr C hW ha0 flX10_72 (by decide) dX10_step_35 (fun hk9 => ?_)
        obtain ⟨q10, h11, hf⟩ := bd hf
        refine m_callV (As := [.ref (ad L (gR S a0 9))]) (rest := []) C hW hk8 (cX2_note_ok  hk8 hk9 h11) mlX10_248 (by decide) rfl hl.1 rfl (Nat.le_of_ble_eq_true rfl) (Nat.le_of_ble_eq_true rfl) (Nat.le_of_ble_eq_true rfl) dX10_step_38 (fun H locs hW => ?_)
        refine lv_aload_n C.1 C.2.1 dX10_step_41 rfl (lv_at hl 0 rfl) ?_
        refine m_getr C hW ha0 flX10_35 (by decide) dX10_step_42 (fun hk12 => ?_)
        refine lv_aload_n C.1 C.2.1 dX10_step_45 rfl (lv_at hl 0 rfl) ?_
        refine m_getr C hW ha0 flX10_72 (by decide) dX10_step_46 (fun hk13 => ?_)
        refine lv_iload_n C.1 C.2.1 dX10_step_49 rfl (lv_at hl 1 rfl) ?_
        refine lv_iconst C.1 C.2.1 dX10_step_50 ic_0 ?_
        obtain ⟨q14, h15, hf⟩ := bd hf
        refine m_callV (As := [.ref (ad L (gR q10 a0 9)), .int a1, .int (0 : Int32)]) (rest := []) C hW hk12 (cX0_attempt_ok  hk12 hk13 h15) mlX10_251 (by decide) rfl hl.1 rfl (Nat.le_of_ble_eq_true rfl) (Nat.le_of_ble_eq_true rfl) (Nat.le_of_ble_eq_true rfl) dX10_step_51 (fun H locs hW => ?_)
        refine lv_aload_n C.1 C.2.1 dX10_step_54 rfl (lv_at hl 0 rfl) ?_
        refine m_getr C hW ha0 flX10_72 (by decide) dX10_step_55 (fun hk16 => ?_)
        refine m_geti C hW hk16 flX10_176 dX10_step_58 ?_
        cases hf
        exact m_iret C hW dX10_step_61
      · have hf := (if_pos c7).symm.trans hf
        refine lv_bipush C.1 C.2.1 dX10_step_27 bp_m2 ?_
        cases hf
        exact m_iret C hW dX10_step_29
    · have hf := (if_neg c2).symm.trans hf
      refine lv_iconst C.1 C.2.1 dX10_step_9 ic_m1 ?_
      cases hf
      exact m_iret C hW dX10_step_10

def fX10_fallsOn (a0 : Nat) (a1 : Int32) (a2 : Int32) (a3 : Int32) (S : MS) : Option (Int32 × MS) := (fX0_fall  (gR S a0 4) (gR S a0 11) (0 : Int32) a3 S).bind fun q3 => (if gI q3 (gR q3 a0 11) 14 = (0 : Int32) then (if gI q3 (gR q3 a0 11) 12 = a1 then (if gI q3 (gR q3 a0 11) 13 = a2 then some ((1 : Int32), q3) else some ((0 : Int32), q3)) else some ((0 : Int32), q3)) else some ((0 : Int32), q3))
set_option maxRecDepth 100000 in
theorem cX10_fallsOn_ok {l : Launch} {G : Gv} {L : List Nat} {S : MS} {a0 : Nat} {a1 : Int32} {a2 : Int32} {a3 : Int32} {q : (Int32 × MS)} (ha0 : a0 < shX.1 ∧ shX.2.1 a0 = 10) (hf : fX10_fallsOn a0 a1 a2 a3 S = some q) : Mt l yX10_fallsOn cX10_fallsOn 4 (some .boolean) (5) G shX L S [.ref (ad L a0), .int a1, .int a2, .int a3] (some (.int q.1)) q.2 := by
  refine m_enter (lv := [(0, .ref (ad L a0)), (1, .int a1), (2, .int a2), (3, .int a3)]) (plainFor_of_name (by decide)) (Nat.le_of_ble_eq_true rfl) rfl ?_
  intro p e s m below meth c A ls C hW hl
  unfold fX10_fallsOn at hf
  refine lv_aload_n C.1 C.2.1 dX10_fallsOn_0 rfl (lv_at hl 0 rfl) ?_
  refine m_getr C hW ha0 flX10_35 (by decide) dX10_fallsOn_1 (fun hk1 => ?_)
  refine lv_aload_n C.1 C.2.1 dX10_fallsOn_4 rfl (lv_at hl 0 rfl) ?_
  refine m_getr C hW ha0 flX10_79 (by decide) dX10_fallsOn_5 (fun hk2 => ?_)
  refine lv_iconst C.1 C.2.1 dX10_fallsOn_8 ic_0 ?_
  refine lv_iload_n C.1 C.2.1 dX10_fallsOn_9 rfl (lv_at hl 3 rfl) ?_
  obtain ⟨q3, h4, hf⟩ := bd hf
  refine m_callV (As := [.ref (ad L (gR S a0 11)), .int (0 : Int32), .int a3]) (rest := []) C hW hk1 (cX0_fall_ok  hk1 hk2 h4) mlX10_303 (by decide) rfl hl.1 rfl (Nat.le_of_ble_eq_true rfl) (Nat.le_of_ble_eq_true rfl) (Nat.le_of_ble_eq_true rfl) dX10_fallsOn_10 (fun H locs hW => ?_)
  refine lv_aload_n C.1 C.2.1 dX10_fallsOn_13 rfl (lv_at hl 0 rfl) ?_
  refine m_getr C hW ha0 flX10_79 (by decide) dX10_fallsOn_14 (fun hk5 => ?_)
  refine m_geti C hW hk5 flX10_173 dX10_fallsOn_17 ?_
  refine lv_if_ne (tgt := 49) C.1 C.2.1 dX10_fallsOn_20 rfl (fun c6 => ?_) (fun c6 => ?_)
  · have hf := (if_neg c6).symm.trans hf
    refine lv_iconst C.1 C.2.1 dX10_fallsOn_49 ic_0 ?_
    cases hf
    exact m_zret C hW rfl dX10_fallsOn_50
  · have hf := (if_pos c6).symm.trans hf
    refine lv_aload_n C.1 C.2.1 dX10_fallsOn_23 rfl (lv_at hl 0 rfl) ?_
    refine m_getr C hW ha0 flX10_79 (by decide) dX10_fallsOn_24 (fun hk7 => ?_)
    refine m_geti C hW hk7 flX10_167 dX10_fallsOn_27 ?_
    refine lv_iload_n C.1 C.2.1 dX10_fallsOn_30 rfl (lv_at hl 1 rfl) ?_
    refine lv_icmp_ne (tgt := 49) C.1 C.2.1 dX10_fallsOn_31 rfl (fun c8 => ?_) (fun c8 => ?_)
    · have hf := (if_neg c8).symm.trans hf
      refine lv_iconst C.1 C.2.1 dX10_fallsOn_49 ic_0 ?_
      cases hf
      exact m_zret C hW rfl dX10_fallsOn_50
    · have hf := (if_pos c8).symm.trans hf
      refine lv_aload_n C.1 C.2.1 dX10_fallsOn_34 rfl (lv_at hl 0 rfl) ?_
      refine m_getr C hW ha0 flX10_79 (by decide) dX10_fallsOn_35 (fun hk9 => ?_)
      refine m_geti C hW hk9 flX10_170 dX10_fallsOn_38 ?_
      refine lv_iload_n C.1 C.2.1 dX10_fallsOn_41 rfl (lv_at hl 2 rfl) ?_
      refine lv_icmp_ne (tgt := 49) C.1 C.2.1 dX10_fallsOn_42 rfl (fun c10 => ?_) (fun c10 => ?_)
      · have hf := (if_neg c10).symm.trans hf
        refine lv_iconst C.1 C.2.1 dX10_fallsOn_49 ic_0 ?_
        cases hf
        exact m_zret C hW rfl dX10_fallsOn_50
      · have hf := (if_pos c10).symm.trans hf
        refine lv_iconst C.1 C.2.1 dX10_fallsOn_45 ic_1 ?_
        refine lv_goto (tgt := 50) C.1 C.2.1 dX10_fallsOn_46 rfl ?_
        cases hf
        exact m_zret C hW rfl dX10_fallsOn_50

def fX0_pass_115  (x1 : Nat) (S : MS) : Option MS := some (pI S x1 3 ((gI S x1 3) + (1 : Int32)))
def fX0_pass_88  (x0 : Nat) (x1 : Nat) (S : MS) : Option MS := (fX0_finishDoings  x0 x1 S).bind fun q1 => (fX0_meetMen  x0 x1 q1).bind fun q3 => (if (gI q3 x1 3) - ((gI q3 x1 3) / (24 : Int32)) * (24 : Int32) = (23 : Int32) then fX0_pass_115  x1 (pI q3 x1 6 (0 : Int32)) else fX0_pass_115  x1 q3)
def fX0_pass_58 (K19 : Nat → Nat → Int32 → Int32 → Nat → Int32 → MS → Option MS) (x0 : Nat) (x1 : Nat) (x2 : Int32) (x3 : Int32) (x4 : Nat) (x5 : Int32) (S : MS) : Option MS := K19 x0 x1 x2 x3 x4 (x5 + (1 : Int32)) S
def fX0_pass_19  : Nat → Nat → Nat → Int32 → Int32 → Nat → Int32 → MS → Option MS
  | 0, _, _, _, _, _, _, _ => none
  | n + 1, x0, x1, x2, x3, x4, x5, S => (fX7_size  x4 S).bind fun q6 => (if q6 ≤ x5 then (fX0_fall  x0 x1 x3 x2 S).bind fun q9 => (if gI q9 x1 14 = (0 : Int32) then fX0_pass_88  x0 x1 q9 else fX0_pass_88  x0 x1 (pI q9 x1 10 ((gI q9 x1 10) + (1 : Int32)))) else (fX7_get  x4 x5 (0 : Int32) S).bind fun q12 => (if q12 = gI S x1 3 then (fX7_get  x4 x5 (1 : Int32) S).bind fun q15 => (fX0_attempt  x0 x1 q15 x2 S).bind fun q17 => fX0_pass_58 (fX0_pass_19  n) x0 x1 x2 x3 x4 x5 q17 else fX0_pass_58 (fX0_pass_19  n) x0 x1 x2 x3 x4 x5 S))
def fX0_pass (a0 : Nat) (a1 : Nat) (a2 : Int32) (S : MS) : Option MS := (fX0_areClouds  a0 a1 a2 S).bind fun q19 => fX0_pass_19  1000 a0 a1 a2 q19.1 (gR q19.2 (gR q19.2 a0 1) 4) (0 : Int32) q19.2
set_option maxRecDepth 100000 in
theorem kX0_pass_115 {p : Program} {l : Launch} {e : Env} {s : State} {m : MethodId} {av : Array Value} {below : List Frame} {meth : Method} {c : Code} {A : Nat → Prop} {G : Gv} {L : List Nat} {q : MS}  (C : mC p s m av meth c cX0_pass RX0 6 none) : ∀ (x1 : Nat) (S : MS) (H : Heap) (locs : List Loc) (ls : Array Slot), (x1 < shX.1 ∧ shX.2.1 x1 = 9) → mW G shX L S A s H locs → lv_has ls 6 [(1, .ref (ad L x1))] → fX0_pass_115  x1 S = some q → W p l e (rmd (5)) s m av below meth c H locs 0 0 (MQ below (mQ G shX L q none A) av s 0 0 A) (F0 m 115 ls []) := by
  intro x1 S H locs ls hx1 hW hl hf
  unfold fX0_pass_115 at hf
  refine lv_aload_n C.1 C.2.1 dX0_pass_115 rfl (lv_at hl 0 rfl) ?_
  refine lv_dup C.1 C.2.1 dX0_pass_116 rfl ?_
  refine m_geti C hW hx1 flX0_43 dX0_pass_117 ?_
  refine lv_iconst C.1 C.2.1 dX0_pass_120 ic_1 ?_
  refine lv_iadd C.1 C.2.1 dX0_pass_121 ?_
  refine m_puti C hW hx1 fpX0_43 dX0_pass_122 (fun H locs hW => ?_)
  cases hf
  exact m_vret C hW dX0_pass_125

set_option maxRecDepth 100000 in
theorem kX0_pass_88 {p : Program} {l : Launch} {e : Env} {s : State} {m : MethodId} {av : Array Value} {below : List Frame} {meth : Method} {c : Code} {A : Nat → Prop} {G : Gv} {L : List Nat} {q : MS}  (C : mC p s m av meth c cX0_pass RX0 6 none) : ∀ (x0 : Nat) (x1 : Nat) (S : MS) (H : Heap) (locs : List Loc) (ls : Array Slot), (x0 < shX.1 ∧ shX.2.1 x0 = 0) → (x1 < shX.1 ∧ shX.2.1 x1 = 9) → mW G shX L S A s H locs → lv_has ls 6 [(0, .ref (ad L x0)), (1, .ref (ad L x1))] → fX0_pass_88  x0 x1 S = some q → W p l e (rmd (5)) s m av below meth c H locs 0 0 (MQ below (mQ G shX L q none A) av s 0 0 A) (F0 m 88 ls []) := by
  intro x0 x1 S H locs ls hx0 hx1 hW hl hf
  unfold fX0_pass_88 at hf
  refine lv_aload_n C.1 C.2.1 dX0_pass_88 rfl (lv_at hl 0 rfl) ?_
  refine lv_aload_n C.1 C.2.1 dX0_pass_89 rfl (lv_at hl 1 rfl) ?_
  obtain ⟨q1, h2, hf⟩ := bd hf
  refine m_callV (As := [.ref (ad L x1)]) (rest := []) C hW hx0 (cX0_finishDoings_ok  hx0 hx1 h2) mlX0_64 (by decide) rfl hl.1 rfl (Nat.le_of_ble_eq_true rfl) (Nat.le_of_ble_eq_true rfl) (Nat.le_of_ble_eq_true rfl) dX0_pass_90 (fun H locs hW => ?_)
  refine lv_aload_n C.1 C.2.1 dX0_pass_93 rfl (lv_at hl 0 rfl) ?_
  refine lv_aload_n C.1 C.2.1 dX0_pass_94 rfl (lv_at hl 1 rfl) ?_
  obtain ⟨q3, h4, hf⟩ := bd hf
  refine m_callV (As := [.ref (ad L x1)]) (rest := []) C hW hx0 (cX0_meetMen_ok  hx0 hx1 h4) mlX0_68 (by decide) rfl hl.1 rfl (Nat.le_of_ble_eq_true rfl) (Nat.le_of_ble_eq_true rfl) (Nat.le_of_ble_eq_true rfl) dX0_pass_95 (fun H locs hW => ?_)
  refine lv_aload_n C.1 C.2.1 dX0_pass_98 rfl (lv_at hl 1 rfl) ?_
  refine m_geti C hW hx1 flX0_43 dX0_pass_99 ?_
  refine lv_bipush C.1 C.2.1 dX0_pass_102 bp_24 ?_
  refine lv_irem C.1 C.2.1 dX0_pass_104 (by decide) ?_
  refine lv_bipush C.1 C.2.1 dX0_pass_105 bp_23 ?_
  refine lv_icmp_ne (tgt := 115) C.1 C.2.1 dX0_pass_107 rfl (fun c5 => ?_) (fun c5 => ?_)
  · have hf := (if_neg c5).symm.trans hf
    exact kX0_pass_115  C x1 _ _ _ _ hx1 hW (lv_sub hl [1] rfl) hf
  · have hf := (if_pos c5).symm.trans hf
    refine lv_aload_n C.1 C.2.1 dX0_pass_110 rfl (lv_at hl 1 rfl) ?_
    refine lv_iconst C.1 C.2.1 dX0_pass_111 ic_0 ?_
    refine m_puti C hW hx1 fpX0_71 dX0_pass_112 (fun H locs hW => ?_)
    exact kX0_pass_115  C x1 _ _ _ _ hx1 hW (lv_sub hl [1] rfl) hf

set_option maxRecDepth 100000 in
theorem kX0_pass_58 {p : Program} {l : Launch} {e : Env} {s : State} {m : MethodId} {av : Array Value} {below : List Frame} {meth : Method} {c : Code} {A : Nat → Prop} {G : Gv} {L : List Nat} {q : MS} {K19 : Nat → Nat → Int32 → Int32 → Nat → Int32 → MS → Option MS} (hK19 : ∀ (x0 : Nat) (x1 : Nat) (x2 : Int32) (x3 : Int32) (x4 : Nat) (x5 : Int32) (S : MS) (H : Heap) (locs : List Loc) (ls : Array Slot), (x0 < shX.1 ∧ shX.2.1 x0 = 0) → (x1 < shX.1 ∧ shX.2.1 x1 = 9) → (x4 < shX.1 ∧ shX.2.1 x4 = 7) → mW G shX L S A s H locs → lv_has ls 6 [(0, .ref (ad L x0)), (1, .ref (ad L x1)), (2, .int x2), (3, .int x3), (4, .ref (ad L x4)), (5, .int x5)] → K19 x0 x1 x2 x3 x4 x5 S = some q → W p l e (rmd (5)) s m av below meth c H locs 0 0 (MQ below (mQ G shX L q none A) av s 0 0 A) (F0 m 19 ls [])) (C : mC p s m av meth c cX0_pass RX0 6 none) : ∀ (x0 : Nat) (x1 : Nat) (x2 : Int32) (x3 : Int32) (x4 : Nat) (x5 : Int32) (S : MS) (H : Heap) (locs : List Loc) (ls : Array Slot), (x0 < shX.1 ∧ shX.2.1 x0 = 0) → (x1 < shX.1 ∧ shX.2.1 x1 = 9) → (x4 < shX.1 ∧ shX.2.1 x4 = 7) → mW G shX L S A s H locs → lv_has ls 6 [(0, .ref (ad L x0)), (1, .ref (ad L x1)), (2, .int x2), (3, .int x3), (4, .ref (ad L x4)), (5, .int x5)] → fX0_pass_58 K19 x0 x1 x2 x3 x4 x5 S = some q → W p l e (rmd (5)) s m av below meth c H locs 0 0 (MQ below (mQ G shX L q none A) av s 0 0 A) (F0 m 58 ls []) := by
  intro x0 x1 x2 x3 x4 x5 S H locs ls hx0 hx1 hx4 hW hl hf
  unfold fX0_pass_58 at hf
  refine lv_iinc (v := x5 + (1 : Int32)) (lv' := [(5, .int (x5 + (1 : Int32))), (0, .ref (ad L x0)), (1, .ref (ad L x1)), (2, .int x2), (3, .int x3), (4, .ref (ad L x4))]) C.1 C.2.1 dX0_pass_58 hl (k := 5) rfl (congrArg (fun z => x5 + z) ic_1) (by decide) rfl (fun ls hl => ?_)
  refine lv_goto (tgt := 19) C.1 C.2.1 dX0_pass_61 rfl ?_
  exact hK19 x0 x1 x2 x3 x4 (x5 + (1 : Int32)) _ _ _ _ hx0 hx1 hx4 hW (lv_sub hl [1, 2, 3, 4, 5, 0] rfl) hf

set_option maxRecDepth 100000 in
theorem kX0_pass_19 {p : Program} {l : Launch} {e : Env} {s : State} {m : MethodId} {av : Array Value} {below : List Frame} {meth : Method} {c : Code} {A : Nat → Prop} {G : Gv} {L : List Nat} {q : MS}  (C : mC p s m av meth c cX0_pass RX0 6 none) : ∀ (n : Nat) (x0 : Nat) (x1 : Nat) (x2 : Int32) (x3 : Int32) (x4 : Nat) (x5 : Int32) (S : MS) (H : Heap) (locs : List Loc) (ls : Array Slot), (x0 < shX.1 ∧ shX.2.1 x0 = 0) → (x1 < shX.1 ∧ shX.2.1 x1 = 9) → (x4 < shX.1 ∧ shX.2.1 x4 = 7) → mW G shX L S A s H locs → lv_has ls 6 [(0, .ref (ad L x0)), (1, .ref (ad L x1)), (2, .int x2), (3, .int x3), (4, .ref (ad L x4)), (5, .int x5)] → fX0_pass_19  n x0 x1 x2 x3 x4 x5 S = some q → W p l e (rmd (5)) s m av below meth c H locs 0 0 (MQ below (mQ G shX L q none A) av s 0 0 A) (F0 m 19 ls []) := by
  intro n
  induction n with
  | zero =>
    intro x0 x1 x2 x3 x4 x5 S H locs ls hx0 hx1 hx4 hW hl hf
    rw [fX0_pass_19] at hf
    cases hf
  | succ n ih =>
    intro x0 x1 x2 x3 x4 x5 S H locs ls hx0 hx1 hx4 hW hl hf
    rw [fX0_pass_19] at hf
    refine lv_iload C.1 C.2.1 dX0_pass_19 (lv_at hl 5 rfl) ?_
    refine lv_aload C.1 C.2.1 dX0_pass_21 (lv_at hl 4 rfl) ?_
    obtain ⟨q6, h7, hf⟩ := bd hf
    refine m_callV (As := []) (rest := [.int x5]) C hW hx4 (cX7_size_ok  hx4 h7) mlX0_33 (by decide) rfl hl.1 rfl (Nat.le_of_ble_eq_true rfl) (Nat.le_of_ble_eq_true rfl) (Nat.le_of_ble_eq_true rfl) dX0_pass_23 (fun H locs hW => ?_)
    refine lv_icmp_ge (tgt := 64) C.1 C.2.1 dX0_pass_26 rfl (fun c8 => ?_) (fun c8 => ?_)
    · have hf := (if_pos c8).symm.trans hf
      refine lv_aload_n C.1 C.2.1 dX0_pass_64 rfl (lv_at hl 0 rfl) ?_
      refine lv_aload_n C.1 C.2.1 dX0_pass_65 rfl (lv_at hl 1 rfl) ?_
      refine lv_iload_n C.1 C.2.1 dX0_pass_66 rfl (lv_at hl 3 rfl) ?_
      refine lv_iload_n C.1 C.2.1 dX0_pass_67 rfl (lv_at hl 2 rfl) ?_
      obtain ⟨q9, h10, hf⟩ := bd hf
      refine m_callV (As := [.ref (ad L x1), .int x3, .int x2]) (rest := []) C hW hx0 (cX0_fall_ok  hx0 hx1 h10) mlX0_53 (by decide) rfl hl.1 rfl (Nat.le_of_ble_eq_true rfl) (Nat.le_of_ble_eq_true rfl) (Nat.le_of_ble_eq_true rfl) dX0_pass_68 (fun H locs hW => ?_)
      refine lv_aload_n C.1 C.2.1 dX0_pass_71 rfl (lv_at hl 1 rfl) ?_
      refine m_geti C hW hx1 flX0_57 dX0_pass_72 ?_
      refine lv_if_eq (tgt := 88) C.1 C.2.1 dX0_pass_75 rfl (fun c11 => ?_) (fun c11 => ?_)
      · have hf := (if_pos c11).symm.trans hf
        exact kX0_pass_88  C x0 x1 _ _ _ _ hx0 hx1 hW (lv_sub hl [0, 1] rfl) hf
      · have hf := (if_neg c11).symm.trans hf
        refine lv_aload_n C.1 C.2.1 dX0_pass_78 rfl (lv_at hl 1 rfl) ?_
        refine lv_dup C.1 C.2.1 dX0_pass_79 rfl ?_
        refine m_geti C hW hx1 flX0_61 dX0_pass_80 ?_
        refine lv_iconst C.1 C.2.1 dX0_pass_83 ic_1 ?_
        refine lv_iadd C.1 C.2.1 dX0_pass_84 ?_
        refine m_puti C hW hx1 fpX0_61 dX0_pass_85 (fun H locs hW => ?_)
        exact kX0_pass_88  C x0 x1 _ _ _ _ hx0 hx1 hW (lv_sub hl [0, 1] rfl) hf
    · have hf := (if_neg c8).symm.trans hf
      refine lv_aload C.1 C.2.1 dX0_pass_29 (lv_at hl 4 rfl) ?_
      refine lv_iload C.1 C.2.1 dX0_pass_31 (lv_at hl 5 rfl) ?_
      refine lv_iconst C.1 C.2.1 dX0_pass_33 ic_0 ?_
      obtain ⟨q12, h13, hf⟩ := bd hf
      refine m_callV (As := [.int x5, .int (0 : Int32)]) (rest := []) C hW hx4 (cX7_get_ok  hx4 h13) mlX0_39 (by decide) rfl hl.1 rfl (Nat.le_of_ble_eq_true rfl) (Nat.le_of_ble_eq_true rfl) (Nat.le_of_ble_eq_true rfl) dX0_pass_34 (fun H locs hW => ?_)
      refine lv_aload_n C.1 C.2.1 dX0_pass_37 rfl (lv_at hl 1 rfl) ?_
      refine m_geti C hW hx1 flX0_43 dX0_pass_38 ?_
      refine lv_icmp_ne (tgt := 58) C.1 C.2.1 dX0_pass_41 rfl (fun c14 => ?_) (fun c14 => ?_)
      · have hf := (if_neg c14).symm.trans hf
        exact kX0_pass_58 ih C x0 x1 x2 x3 x4 x5 _ _ _ _ hx0 hx1 hx4 hW (lv_sub hl [0, 1, 2, 3, 4, 5] rfl) hf
      · have hf := (if_pos c14).symm.trans hf
        refine lv_aload_n C.1 C.2.1 dX0_pass_44 rfl (lv_at hl 0 rfl) ?_
        refine lv_aload_n C.1 C.2.1 dX0_pass_45 rfl (lv_at hl 1 rfl) ?_
        refine lv_aload C.1 C.2.1 dX0_pass_46 (lv_at hl 4 rfl) ?_
        refine lv_iload C.1 C.2.1 dX0_pass_48 (lv_at hl 5 rfl) ?_
        refine lv_iconst C.1 C.2.1 dX0_pass_50 ic_1 ?_
        obtain ⟨q15, h16, hf⟩ := bd hf
        refine m_callV (As := [.int x5, .int (1 : Int32)]) (rest := [.ref (ad L x1), .ref (ad L x0)]) C hW hx4 (cX7_get_ok  hx4 h16) mlX0_39 (by decide) rfl hl.1 rfl (Nat.le_of_ble_eq_true rfl) (Nat.le_of_ble_eq_true rfl) (Nat.le_of_ble_eq_true rfl) dX0_pass_51 (fun H locs hW => ?_)
        refine lv_iload_n C.1 C.2.1 dX0_pass_54 rfl (lv_at hl 2 rfl) ?_
        obtain ⟨q17, h18, hf⟩ := bd hf
        refine m_callV (As := [.ref (ad L x1), .int q15, .int x2]) (rest := []) C hW hx0 (cX0_attempt_ok  hx0 hx1 h18) mlX0_49 (by decide) rfl hl.1 rfl (Nat.le_of_ble_eq_true rfl) (Nat.le_of_ble_eq_true rfl) (Nat.le_of_ble_eq_true rfl) dX0_pass_55 (fun H locs hW => ?_)
        exact kX0_pass_58 ih C x0 x1 x2 x3 x4 x5 _ _ _ _ hx0 hx1 hx4 hW (lv_sub hl [0, 1, 2, 3, 4, 5] rfl) hf

set_option maxRecDepth 100000 in
theorem cX0_pass_ok {l : Launch} {G : Gv} {L : List Nat} {S : MS} {a0 : Nat} {a1 : Nat} {a2 : Int32} {q : MS} (ha0 : a0 < shX.1 ∧ shX.2.1 a0 = 0) (ha1 : a1 < shX.1 ∧ shX.2.1 a1 = 9) (hf : fX0_pass a0 a1 a2 S = some q) : Mt l yX0_pass cX0_pass 6 none (5) G shX L S [.ref (ad L a0), .ref (ad L a1), .int a2] none q := by
  refine m_enter (lv := [(0, .ref (ad L a0)), (1, .ref (ad L a1)), (2, .int a2)]) (plainFor_of_name (by decide)) (Nat.le_of_ble_eq_true rfl) rfl ?_
  intro p e s m below meth c A ls C hW hl
  unfold fX0_pass at hf
  refine lv_aload_n C.1 C.2.1 dX0_pass_0 rfl (lv_at hl 0 rfl) ?_
  refine lv_aload_n C.1 C.2.1 dX0_pass_1 rfl (lv_at hl 1 rfl) ?_
  refine lv_iload_n C.1 C.2.1 dX0_pass_2 rfl (lv_at hl 2 rfl) ?_
  obtain ⟨q19, h20, hf⟩ := bd hf
  refine m_callV (As := [.ref (ad L a1), .int a2]) (rest := []) C hW ha0 (cX0_areClouds_ok  ha0 ha1 h20) mlX0_23 (by decide) rfl hl.1 rfl (Nat.le_of_ble_eq_true rfl) (Nat.le_of_ble_eq_true rfl) (Nat.le_of_ble_eq_true rfl) dX0_pass_3 (fun H locs hW => ?_)
  refine lv_istore_n (lv' := [(3, .int q19.1), (0, .ref (ad L a0)), (1, .ref (ad L a1)), (2, .int a2)]) C.1 C.2.1 dX0_pass_6 rfl hl (by decide) rfl (fun ls hl => ?_)
  refine lv_aload_n C.1 C.2.1 dX0_pass_7 rfl (lv_at hl 1 rfl) ?_
  refine m_getr C hW ha0 flX0_15 (by decide) dX0_pass_8 (fun hk21 => ?_)
  refine m_getr C hW hk21 flX0_27 (by decide) dX0_pass_11 (fun hk22 => ?_)
  refine lv_astore (lv' := [(4, .ref (ad L (gR q19.2 (gR q19.2 a0 1) 4))), (3, .int q19.1), (0, .ref (ad L a0)), (1, .ref (ad L a1)), (2, .int a2)]) C.1 C.2.1 dX0_pass_14 hl (by decide) rfl (fun ls hl => ?_)
  refine lv_iconst C.1 C.2.1 dX0_pass_16 ic_0 ?_
  refine lv_istore (lv' := [(5, .int (0 : Int32)), (4, .ref (ad L (gR q19.2 (gR q19.2 a0 1) 4))), (3, .int q19.1), (0, .ref (ad L a0)), (1, .ref (ad L a1)), (2, .int a2)]) C.1 C.2.1 dX0_pass_17 hl (by decide) rfl (fun ls hl => ?_)
  exact kX0_pass_19  C 1000 a0 a1 a2 q19.1 (gR q19.2 (gR q19.2 a0 1) 4) (0 : Int32) _ _ _ _ ha0 ha1 hk22 hW (lv_sub hl [3, 4, 5, 2, 1, 0] rfl) hf

def fX0_fallNow_19  (y0 : Nat) (y1 : Nat) (y2 : Int32) (S : MS) : Option MS := (fX0_fall  y0 y1 y2 (0 : Int32) S).bind fun q1 => some q1
def fX0_fallNow (a0 : Nat) (a1 : Nat) (S : MS) : Option MS := (if (gI S (gR S a0 1) 13) < (50 : Int32) then fX0_fallNow_19  a0 a1 (0 : Int32) S else fX0_fallNow_19  a0 a1 (1 : Int32) S)
set_option maxRecDepth 100000 in
theorem kX0_fallNow_19 {p : Program} {l : Launch} {e : Env} {s : State} {m : MethodId} {av : Array Value} {below : List Frame} {meth : Method} {c : Code} {A : Nat → Prop} {G : Gv} {L : List Nat} {q : MS}  (C : mC p s m av meth c cX0_fallNow RX0 2 none) : ∀ (y0 : Nat) (y1 : Nat) (y2 : Int32) (S : MS) (H : Heap) (locs : List Loc) (ls : Array Slot), (y0 < shX.1 ∧ shX.2.1 y0 = 0) → (y1 < shX.1 ∧ shX.2.1 y1 = 9) → mW G shX L S A s H locs → lv_has ls 2 [] → fX0_fallNow_19  y0 y1 y2 S = some q → W p l e (rmd (5)) s m av below meth c H locs 0 0 (MQ below (mQ G shX L q none A) av s 0 0 A) (F0 m 19 ls [.int y2, .ref (ad L y1), .ref (ad L y0)]) := by
  intro y0 y1 y2 S H locs ls hy0 hy1 hW hl hf
  unfold fX0_fallNow_19 at hf
  refine lv_iconst C.1 C.2.1 dX0_fallNow_19 ic_0 ?_
  obtain ⟨q1, h2, hf⟩ := bd hf
  refine m_callV (As := [.ref (ad L y1), .int y2, .int (0 : Int32)]) (rest := []) C hW hy0 (cX0_fall_ok  hy0 hy1 h2) mlX0_53 (by decide) rfl hl.1 rfl (Nat.le_of_ble_eq_true rfl) (Nat.le_of_ble_eq_true rfl) (Nat.le_of_ble_eq_true rfl) dX0_fallNow_20 (fun H locs hW => ?_)
  cases hf
  exact m_vret C hW dX0_fallNow_23

set_option maxRecDepth 100000 in
theorem cX0_fallNow_ok {l : Launch} {G : Gv} {L : List Nat} {S : MS} {a0 : Nat} {a1 : Nat} {q : MS} (ha0 : a0 < shX.1 ∧ shX.2.1 a0 = 0) (ha1 : a1 < shX.1 ∧ shX.2.1 a1 = 9) (hf : fX0_fallNow a0 a1 S = some q) : Mt l yX0_fallNow cX0_fallNow 2 none (5) G shX L S [.ref (ad L a0), .ref (ad L a1)] none q := by
  refine m_enter (lv := [(0, .ref (ad L a0)), (1, .ref (ad L a1))]) (plainFor_of_name (by decide)) (Nat.le_of_ble_eq_true rfl) rfl ?_
  intro p e s m below meth c A ls C hW hl
  unfold fX0_fallNow at hf
  refine lv_aload_n C.1 C.2.1 dX0_fallNow_0 rfl (lv_at hl 0 rfl) ?_
  refine lv_aload_n C.1 C.2.1 dX0_fallNow_1 rfl (lv_at hl 1 rfl) ?_
  refine lv_aload_n C.1 C.2.1 dX0_fallNow_2 rfl (lv_at hl 0 rfl) ?_
  refine m_getr C hW ha0 flX0_15 (by decide) dX0_fallNow_3 (fun hk3 => ?_)
  refine m_geti C hW hk3 flX0_74 dX0_fallNow_6 ?_
  refine lv_bipush C.1 C.2.1 dX0_fallNow_9 bp_50 ?_
  refine lv_icmp_lt (tgt := 18) C.1 C.2.1 dX0_fallNow_11 rfl (fun c4 => ?_) (fun c4 => ?_)
  · have hf := (if_pos c4).symm.trans hf
    refine lv_iconst C.1 C.2.1 dX0_fallNow_18 ic_0 ?_
    exact kX0_fallNow_19  C a0 a1 (0 : Int32) _ _ _ _ ha0 ha1 hW (lv_sub hl [] rfl) hf
  · have hf := (if_neg c4).symm.trans hf
    refine lv_iconst C.1 C.2.1 dX0_fallNow_14 ic_1 ?_
    refine lv_goto (tgt := 19) C.1 C.2.1 dX0_fallNow_15 rfl ?_
    exact kX0_fallNow_19  C a0 a1 (1 : Int32) _ _ _ _ ha0 ha1 hW (lv_sub hl [] rfl) hf

