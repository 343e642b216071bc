def fX10_named (a0 : Nat) (a1 : Int32) (a2 : Int32) (S : MS) : Option Int32 := (if a1 = (0 : Int32) then (fX7_find  (gR S (gR S a0 1) 3) (0 : Int32) a2 S).bind fun q4 => some q4 else if a1 = (1 : Int32) then (fX7_find  (gR S (gR S a0 1) 5) (0 : Int32) a2 S).bind fun q9 => some q9 else if a1 = (2 : Int32) then (fX7_find  (gR S (gR S a0 1) 6) (0 : Int32) a2 S).bind fun q14 => some q14 else some (-1 : Int32))
set_option maxRecDepth 100000 in
theorem cX10_named_ok {l : Launch} {G : Gv} {L : List Nat} {S : MS} {a0 : Nat} {a1 : Int32} {a2 : Int32} {q : Int32} (ha0 : a0 < shX.1 ∧ shX.2.1 a0 = 10) (hf : fX10_named a0 a1 a2 S = some q) : Mt l yX10_named cX10_named 3 (some .int) (3) G shX L S [.ref (ad L a0), .int a1, .int a2] (some (.int q)) S := by
  refine m_enter (lv := [(0, .ref (ad L a0)), (1, .int a1), (2, .int a2)]) (plainFor_of_name (by decide)) (Nat.le_of_ble_eq_true rfl) rfl ?_
  intro p e s m below meth c A ls C hW hl
  unfold fX10_named at hf
  refine lv_iload_n C.1 C.2.1 dX10_named_0 rfl (lv_at hl 1 rfl) ?_
  by_cases c1 : a1 = (0 : Int32)
  · have hf := (if_pos c1).symm.trans hf
    refine lv_tableIn (tgt := 28) C.1 C.2.1 dX10_named_1 (by rw [c1]; decide) (by rw [c1]; decide) (by rw [c1]; rfl) rfl ?_
    refine lv_aload_n C.1 C.2.1 dX10_named_28 rfl (lv_at hl 0 rfl) ?_
    refine m_getr C hW ha0 flX10_16 (by decide) dX10_named_29 (fun hk2 => ?_)
    refine m_getr C hW hk2 flX10_141 (by decide) dX10_named_32 (fun hk3 => ?_)
    refine lv_iconst C.1 C.2.1 dX10_named_35 ic_0 ?_
    refine lv_iload_n C.1 C.2.1 dX10_named_36 rfl (lv_at hl 2 rfl) ?_
    obtain ⟨q4, h5, hf⟩ := bd hf
    refine m_callV (As := [.int (0 : Int32), .int a2]) (rest := []) C hW hk3 (cX7_find_ok  hk3 h5) mlX10_145 (by decide) rfl hl.1 rfl (Nat.le_of_ble_eq_true rfl) (Nat.le_of_ble_eq_true rfl) (Nat.le_of_ble_eq_true rfl) dX10_named_37 (fun H locs hW => ?_)
    cases hf
    exact m_iret C hW dX10_named_40
  have hf := (if_neg c1).symm.trans hf
  by_cases c6 : a1 = (1 : Int32)
  · have hf := (if_pos c6).symm.trans hf
    refine lv_tableIn (tgt := 41) C.1 C.2.1 dX10_named_1 (by rw [c6]; decide) (by rw [c6]; decide) (by rw [c6]; rfl) rfl ?_
    refine lv_aload_n C.1 C.2.1 dX10_named_41 rfl (lv_at hl 0 rfl) ?_
    refine m_getr C hW ha0 flX10_16 (by decide) dX10_named_42 (fun hk7 => ?_)
    refine m_getr C hW hk7 flX10_151 (by decide) dX10_named_45 (fun hk8 => ?_)
    refine lv_iconst C.1 C.2.1 dX10_named_48 ic_0 ?_
    refine lv_iload_n C.1 C.2.1 dX10_named_49 rfl (lv_at hl 2 rfl) ?_
    obtain ⟨q9, h10, hf⟩ := bd hf
    refine m_callV (As := [.int (0 : Int32), .int a2]) (rest := []) C hW hk8 (cX7_find_ok  hk8 h10) mlX10_145 (by decide) rfl hl.1 rfl (Nat.le_of_ble_eq_true rfl) (Nat.le_of_ble_eq_true rfl) (Nat.le_of_ble_eq_true rfl) dX10_named_50 (fun H locs hW => ?_)
    cases hf
    exact m_iret C hW dX10_named_53
  have hf := (if_neg c6).symm.trans hf
  by_cases c11 : a1 = (2 : Int32)
  · have hf := (if_pos c11).symm.trans hf
    refine lv_tableIn (tgt := 54) C.1 C.2.1 dX10_named_1 (by rw [c11]; decide) (by rw [c11]; decide) (by rw [c11]; rfl) rfl ?_
    refine lv_aload_n C.1 C.2.1 dX10_named_54 rfl (lv_at hl 0 rfl) ?_
    refine m_getr C hW ha0 flX10_16 (by decide) dX10_named_55 (fun hk12 => ?_)
    refine m_getr C hW hk12 flX10_154 (by decide) dX10_named_58 (fun hk13 => ?_)
    refine lv_iconst C.1 C.2.1 dX10_named_61 ic_0 ?_
    refine lv_iload_n C.1 C.2.1 dX10_named_62 rfl (lv_at hl 2 rfl) ?_
    obtain ⟨q14, h15, hf⟩ := bd hf
    refine m_callV (As := [.int (0 : Int32), .int a2]) (rest := []) C hW hk13 (cX7_find_ok  hk13 h15) mlX10_145 (by decide) rfl hl.1 rfl (Nat.le_of_ble_eq_true rfl) (Nat.le_of_ble_eq_true rfl) (Nat.le_of_ble_eq_true rfl) dX10_named_63 (fun H locs hW => ?_)
    cases hf
    exact m_iret C hW dX10_named_66
  have hf := (if_neg c11).symm.trans hf
  by_cases ho16 : a1.toInt < 0 ∨ 2 < a1.toInt
  · refine lv_tableOut (tgt := 67) C.1 C.2.1 dX10_named_1 ho16 rfl ?_
    refine lv_iconst C.1 C.2.1 dX10_named_67 ic_m1 ?_
    cases hf
    exact m_iret C hW dX10_named_68
  · exfalso
    have := tn_e c1 (0) (by decide)
    have := tn_e c6 (1) (by decide)
    have := tn_e c11 (2) (by decide)
    omega

def fX10_wall (a0 : Nat) (a1 : Int32) (a2 : Int32) (S : MS) : Option Int32 := (fX8_isCell  (gR S a0 1) a1 a2 S).bind fun q2 => (if q2 = (0 : Int32) then some (-1 : Int32) else (fX8_isWall  (gR S a0 1) a1 a2 S).bind fun q6 => (if q6 = (0 : Int32) then some (0 : Int32) else some (1 : Int32)))
set_option maxRecDepth 100000 in
theorem cX10_wall_ok {l : Launch} {G : Gv} {L : List Nat} {S : MS} {a0 : Nat} {a1 : Int32} {a2 : Int32} {q : Int32} (ha0 : a0 < shX.1 ∧ shX.2.1 a0 = 10) (hf : fX10_wall a0 a1 a2 S = some q) : Mt l yX10_wall cX10_wall 3 (some .int) (3) G shX L S [.ref (ad L a0), .int a1, .int a2] (some (.int q)) S := by
  refine m_enter (lv := [(0, .ref (ad L a0)), (1, .int a1), (2, .int a2)]) (plainFor_of_name (by decide)) (Nat.le_of_ble_eq_true rfl) rfl ?_
  intro p e s m below meth c A ls C hW hl
  unfold fX10_wall at hf
  refine lv_aload_n C.1 C.2.1 dX10_wall_0 rfl (lv_at hl 0 rfl) ?_
  refine m_getr C hW ha0 flX10_16 (by decide) dX10_wall_1 (fun hk1 => ?_)
  refine lv_iload_n C.1 C.2.1 dX10_wall_4 rfl (lv_at hl 1 rfl) ?_
  refine lv_iload_n C.1 C.2.1 dX10_wall_5 rfl (lv_at hl 2 rfl) ?_
  obtain ⟨q2, h3, hf⟩ := bd hf
  refine m_callV (As := [.int a1, .int a2]) (rest := []) C hW hk1 (cX8_isCell_ok  hk1 h3) mlX10_221 (by decide) rfl hl.1 rfl (Nat.le_of_ble_eq_true rfl) (Nat.le_of_ble_eq_true rfl) (Nat.le_of_ble_eq_true rfl) dX10_wall_6 (fun H locs hW => ?_)
  refine lv_if_ne (tgt := 14) C.1 C.2.1 dX10_wall_9 rfl (fun c4 => ?_) (fun c4 => ?_)
  · have hf := (if_neg c4).symm.trans hf
    refine lv_aload_n C.1 C.2.1 dX10_wall_14 rfl (lv_at hl 0 rfl) ?_
    refine m_getr C hW ha0 flX10_16 (by decide) dX10_wall_15 (fun hk5 => ?_)
    refine lv_iload_n C.1 C.2.1 dX10_wall_18 rfl (lv_at hl 1 rfl) ?_
    refine lv_iload_n C.1 C.2.1 dX10_wall_19 rfl (lv_at hl 2 rfl) ?_
    obtain ⟨q6, h7, hf⟩ := bd hf
    refine m_callV (As := [.int a1, .int a2]) (rest := []) C hW hk5 (cX8_isWall_ok  hk5 h7) mlX10_225 (by decide) rfl hl.1 rfl (Nat.le_of_ble_eq_true rfl) (Nat.le_of_ble_eq_true rfl) (Nat.le_of_ble_eq_true rfl) dX10_wall_20 (fun H locs hW => ?_)
    refine lv_if_eq (tgt := 30) C.1 C.2.1 dX10_wall_23 rfl (fun c8 => ?_) (fun c8 => ?_)
    · have hf := (if_pos c8).symm.trans hf
      refine lv_iconst C.1 C.2.1 dX10_wall_30 ic_0 ?_
      cases hf
      exact m_iret C hW dX10_wall_31
    · have hf := (if_neg c8).symm.trans hf
      refine lv_iconst C.1 C.2.1 dX10_wall_26 ic_1 ?_
      refine lv_goto (tgt := 31) C.1 C.2.1 dX10_wall_27 rfl ?_
      cases hf
      exact m_iret C hW dX10_wall_31
  · have hf := (if_pos c4).symm.trans hf
    refine lv_iconst C.1 C.2.1 dX10_wall_12 ic_m1 ?_
    cases hf
    exact m_iret C hW dX10_wall_13

def fX0_isOpen_47  (x0 : Nat) (x1 : Nat) (x4 : Int32) (x5 : Int32) (y0 : Int32) (S : MS) : Option Int32 := (fX8_isCell  (gR S x0 1) x4 x5 S).bind fun q2 => (if q2 = (0 : Int32) then some (0 : Int32) else (if y0 = (0 : Int32) then some (0 : Int32) else (if (9 : Int32) ≤ (gI S x1 6) then some (0 : Int32) else some (1 : Int32))))
def fX0_isOpen_42  (x0 : Nat) (x1 : Nat) (x4 : Int32) (x5 : Int32) (S : MS) : Option Int32 := fX0_isOpen_47  x0 x1 x4 x5 (1 : Int32) S
def fX0_isOpen (a0 : Nat) (a1 : Nat) (a2 : Int32) (a3 : Int32) (S : MS) : Option Int32 := (fX10_downBy  a2 S).bind fun q7 => (fX10_rightBy  a2 S).bind fun q9 => (if a3 &&& (4 : Int32) = (0 : Int32) then (fX8_isWall  (gR S a0 1) ((gI S a1 4) + q7) ((gI S a1 5) + q9) S).bind fun q13 => (if q13 = (0 : Int32) then fX0_isOpen_42  a0 a1 ((gI S a1 4) + q7) ((gI S a1 5) + q9) S else fX0_isOpen_47  a0 a1 ((gI S a1 4) + q7) ((gI S a1 5) + q9) (0 : Int32) S) else fX0_isOpen_42  a0 a1 ((gI S a1 4) + q7) ((gI S a1 5) + q9) S)
set_option maxRecDepth 100000 in
theorem kX0_isOpen_47 {p : Program} {l : Launch} {e : Env} {s : State} {m : MethodId} {av : Array Value} {below : List Frame} {meth : Method} {c : Code} {A : Nat → Prop} {G : Gv} {L : List Nat} {S : MS} {q : Int32}  (C : mC p s m av meth c cX0_isOpen RX0 7 (some .boolean)) : ∀ (x0 : Nat) (x1 : Nat) (x4 : Int32) (x5 : Int32) (y0 : Int32) (H : Heap) (locs : List Loc) (ls : Array Slot), (x0 < shX.1 ∧ shX.2.1 x0 = 0) → (x1 < shX.1 ∧ shX.2.1 x1 = 9) → mW G shX L S A s H locs → lv_has ls 7 [(0, .ref (ad L x0)), (1, .ref (ad L x1)), (4, .int x4), (5, .int x5)] → fX0_isOpen_47  x0 x1 x4 x5 y0 S = some q → W p l e (rmd (3)) s m av below meth c H locs 0 0 (MQ below (mQ G shX L S (some (.int q)) A) av s 0 0 A) (F0 m 47 ls [.int y0]) := by
  intro x0 x1 x4 x5 y0 H locs ls hx0 hx1 hW hl hf
  unfold fX0_isOpen_47 at hf
  refine lv_istore (lv' := [(6, .int y0), (0, .ref (ad L x0)), (1, .ref (ad L x1)), (4, .int x4), (5, .int x5)]) C.1 C.2.1 dX0_isOpen_47 hl (by decide) rfl (fun ls hl => ?_)
  refine lv_aload_n C.1 C.2.1 dX0_isOpen_49 rfl (lv_at hl 1 rfl) ?_
  refine m_getr C hW hx0 flX0_15 (by decide) dX0_isOpen_50 (fun hk1 => ?_)
  refine lv_iload C.1 C.2.1 dX0_isOpen_53 (lv_at hl 3 rfl) ?_
  refine lv_iload C.1 C.2.1 dX0_isOpen_55 (lv_at hl 4 rfl) ?_
  obtain ⟨q2, h3, hf⟩ := bd hf
  refine m_callV (As := [.int x4, .int x5]) (rest := []) C hW hk1 (cX8_isCell_ok  hk1 h3) mlX0_126 (by decide) rfl hl.1 rfl (Nat.le_of_ble_eq_true rfl) (Nat.le_of_ble_eq_true rfl) (Nat.le_of_ble_eq_true rfl) dX0_isOpen_57 (fun H locs hW => ?_)
  refine lv_if_eq (tgt := 81) C.1 C.2.1 dX0_isOpen_60 rfl (fun c4 => ?_) (fun c4 => ?_)
  · have hf := (if_pos c4).symm.trans hf
    refine lv_iconst C.1 C.2.1 dX0_isOpen_81 ic_0 ?_
    cases hf
    exact m_zret C hW rfl dX0_isOpen_82
  · have hf := (if_neg c4).symm.trans hf
    refine lv_iload C.1 C.2.1 dX0_isOpen_63 (lv_at hl 0 rfl) ?_
    refine lv_if_eq (tgt := 81) C.1 C.2.1 dX0_isOpen_65 rfl (fun c5 => ?_) (fun c5 => ?_)
    · have hf := (if_pos c5).symm.trans hf
      refine lv_iconst C.1 C.2.1 dX0_isOpen_81 ic_0 ?_
      cases hf
      exact m_zret C hW rfl dX0_isOpen_82
    · have hf := (if_neg c5).symm.trans hf
      refine lv_aload_n C.1 C.2.1 dX0_isOpen_68 rfl (lv_at hl 2 rfl) ?_
      refine m_geti C hW hx1 flX0_71 dX0_isOpen_69 ?_
      refine lv_bipush C.1 C.2.1 dX0_isOpen_72 bp_9 ?_
      refine lv_icmp_ge (tgt := 81) C.1 C.2.1 dX0_isOpen_74 rfl (fun c6 => ?_) (fun c6 => ?_)
      · have hf := (if_pos c6).symm.trans hf
        refine lv_iconst C.1 C.2.1 dX0_isOpen_81 ic_0 ?_
        cases hf
        exact m_zret C hW rfl dX0_isOpen_82
      · have hf := (if_neg c6).symm.trans hf
        refine lv_iconst C.1 C.2.1 dX0_isOpen_77 ic_1 ?_
        refine lv_goto (tgt := 82) C.1 C.2.1 dX0_isOpen_78 rfl ?_
        cases hf
        exact m_zret C hW rfl dX0_isOpen_82

set_option maxRecDepth 100000 in
theorem kX0_isOpen_42 {p : Program} {l : Launch} {e : Env} {s : State} {m : MethodId} {av : Array Value} {below : List Frame} {meth : Method} {c : Code} {A : Nat → Prop} {G : Gv} {L : List Nat} {S : MS} {q : Int32}  (C : mC p s m av meth c cX0_isOpen RX0 7 (some .boolean)) : ∀ (x0 : Nat) (x1 : Nat) (x4 : Int32) (x5 : Int32) (H : Heap) (locs : List Loc) (ls : Array Slot), (x0 < shX.1 ∧ shX.2.1 x0 = 0) → (x1 < shX.1 ∧ shX.2.1 x1 = 9) → mW G shX L S A s H locs → lv_has ls 7 [(0, .ref (ad L x0)), (1, .ref (ad L x1)), (4, .int x4), (5, .int x5)] → fX0_isOpen_42  x0 x1 x4 x5 S = some q → W p l e (rmd (3)) s m av below meth c H locs 0 0 (MQ below (mQ G shX L S (some (.int q)) A) av s 0 0 A) (F0 m 42 ls []) := by
  intro x0 x1 x4 x5 H locs ls hx0 hx1 hW hl hf
  unfold fX0_isOpen_42 at hf
  refine lv_iconst C.1 C.2.1 dX0_isOpen_42 ic_1 ?_
  refine lv_goto (tgt := 47) C.1 C.2.1 dX0_isOpen_43 rfl ?_
  exact kX0_isOpen_47  C x0 x1 x4 x5 (1 : Int32) _ _ _ hx0 hx1 hW (lv_sub hl [0, 1, 2, 3] rfl) hf

set_option maxRecDepth 100000 in
theorem cX0_isOpen_ok {l : Launch} {G : Gv} {L : List Nat} {S : MS} {a0 : Nat} {a1 : Nat} {a2 : Int32} {a3 : Int32} {q : Int32} (ha0 : a0 < shX.1 ∧ shX.2.1 a0 = 0) (ha1 : a1 < shX.1 ∧ shX.2.1 a1 = 9) (hf : fX0_isOpen a0 a1 a2 a3 S = some q) : Mt l yX0_isOpen cX0_isOpen 7 (some .boolean) (3) G shX L S [.ref (ad L a0), .ref (ad L a1), .int a2, .int a3] (some (.int q)) S := by
  refine m_enter (lv := [(0, .ref (ad L a0)), (1, .ref (ad L a1)), (2, .int a2), (3, .int a3)]) (plainFor_of_name (by decide)) (Nat.le_of_ble_eq_true rfl) rfl ?_
  intro p e s m below meth c A ls C hW hl
  unfold fX0_isOpen at hf
  refine lv_aload_n C.1 C.2.1 dX0_isOpen_0 rfl (lv_at hl 1 rfl) ?_
  refine m_geti C hW ha1 flX0_97 dX0_isOpen_1 ?_
  refine lv_iload_n C.1 C.2.1 dX0_isOpen_4 rfl (lv_at hl 2 rfl) ?_
  obtain ⟨q7, h8, hf⟩ := bd hf
  refine m_callS (As := [.int a2]) (rest := [.int (gI S a1 4)]) C hW (cX10_downBy_ok   h8) mlX0_100 rfl hl.1 rfl (Nat.le_of_ble_eq_true rfl) (Nat.le_of_ble_eq_true rfl) (Nat.le_of_ble_eq_true rfl) dX0_isOpen_5 (fun H locs hW => ?_)
  refine lv_iadd C.1 C.2.1 dX0_isOpen_8 ?_
  refine lv_istore (lv' := [(4, .int ((gI S a1 4) + q7)), (0, .ref (ad L a0)), (1, .ref (ad L a1)), (2, .int a2), (3, .int a3)]) C.1 C.2.1 dX0_isOpen_9 hl (by decide) rfl (fun ls hl => ?_)
  refine lv_aload_n C.1 C.2.1 dX0_isOpen_11 rfl (lv_at hl 2 rfl) ?_
  refine m_geti C hW ha1 flX0_104 dX0_isOpen_12 ?_
  refine lv_iload_n C.1 C.2.1 dX0_isOpen_15 rfl (lv_at hl 3 rfl) ?_
  obtain ⟨q9, h10, hf⟩ := bd hf
  refine m_callS (As := [.int a2]) (rest := [.int (gI S a1 5)]) C hW (cX10_rightBy_ok   h10) mlX0_107 rfl hl.1 rfl (Nat.le_of_ble_eq_true rfl) (Nat.le_of_ble_eq_true rfl) (Nat.le_of_ble_eq_true rfl) dX0_isOpen_16 (fun H locs hW => ?_)
  refine lv_iadd C.1 C.2.1 dX0_isOpen_19 ?_
  refine lv_istore (lv' := [(5, .int ((gI S a1 5) + q9)), (4, .int ((gI S a1 4) + q7)), (0, .ref (ad L a0)), (1, .ref (ad L a1)), (2, .int a2), (3, .int a3)]) C.1 C.2.1 dX0_isOpen_20 hl (by decide) rfl (fun ls hl => ?_)
  refine lv_iload_n C.1 C.2.1 dX0_isOpen_22 rfl (lv_at hl 5 rfl) ?_
  refine lv_iconst C.1 C.2.1 dX0_isOpen_23 ic_4 ?_
  refine lv_iand C.1 C.2.1 dX0_isOpen_24 ?_
  refine lv_if_ne (tgt := 42) C.1 C.2.1 dX0_isOpen_25 rfl (fun c11 => ?_) (fun c11 => ?_)
  · have hf := (if_neg c11).symm.trans hf
    exact kX0_isOpen_42  C a0 a1 ((gI S a1 4) + q7) ((gI S a1 5) + q9) _ _ _ ha0 ha1 hW (lv_sub hl [2, 3, 1, 0] rfl) hf
  · have hf := (if_pos c11).symm.trans hf
    refine lv_aload_n C.1 C.2.1 dX0_isOpen_28 rfl (lv_at hl 2 rfl) ?_
    refine m_getr C hW ha0 flX0_15 (by decide) dX0_isOpen_29 (fun hk12 => ?_)
    refine lv_iload C.1 C.2.1 dX0_isOpen_32 (lv_at hl 1 rfl) ?_
    refine lv_iload C.1 C.2.1 dX0_isOpen_34 (lv_at hl 0 rfl) ?_
    obtain ⟨q13, h14, hf⟩ := bd hf
    refine m_callV (As := [.int ((gI S a1 4) + q7), .int ((gI S a1 5) + q9)]) (rest := []) C hW hk12 (cX8_isWall_ok  hk12 h14) mlX0_122 (by decide) rfl hl.1 rfl (Nat.le_of_ble_eq_true rfl) (Nat.le_of_ble_eq_true rfl) (Nat.le_of_ble_eq_true rfl) dX0_isOpen_36 (fun H locs hW => ?_)
    refine lv_if_ne (tgt := 46) C.1 C.2.1 dX0_isOpen_39 rfl (fun c15 => ?_) (fun c15 => ?_)
    · have hf := (if_neg c15).symm.trans hf
      refine lv_iconst C.1 C.2.1 dX0_isOpen_46 ic_0 ?_
      exact kX0_isOpen_47  C a0 a1 ((gI S a1 4) + q7) ((gI S a1 5) + q9) (0 : Int32) _ _ _ ha0 ha1 hW (lv_sub hl [2, 3, 1, 0] rfl) hf
    · have hf := (if_pos c15).symm.trans hf
      exact kX0_isOpen_42  C a0 a1 ((gI S a1 4) + q7) ((gI S a1 5) + q9) _ _ _ ha0 ha1 hW (lv_sub hl [2, 3, 1, 0] rfl) hf

def fX3_fewest_167  (x0 : Nat) (x3 : Int32) (S : MS) : Option (Int32 × MS) := (if x3 < (0 : Int32) then some ((-1 : Int32), S) else (if (64 : Int32) ≤ x3 then some ((-1 : Int32), S) else (if bnd x3 (lnX (gR S x0 0)) = true then some (gI S (gR S x0 0) x3.toNatClampNeg, S) else none)))
def fX3_fewest_155 (K38 : Nat → Nat → Int32 → Int32 → MS → Option (Int32 × MS)) (K81 : Nat → Nat → Int32 → Int32 → Int32 → Int32 → Int32 → MS → Option (Int32 × MS)) (x0 : Nat) (x1 : Nat) (x3 : Int32) (x4 : Int32) (x5 : Int32) (x6 : Int32) (x7 : Int32) (S : MS) : Option (Int32 × MS) := K81 x0 x1 x3 x4 x5 x6 (x7 + (1 : Int32)) S
def fX3_fewest_81 (K38 : Nat → Nat → Int32 → Int32 → MS → Option (Int32 × MS)) : Nat → Nat → Nat → Int32 → Int32 → Int32 → Int32 → Int32 → MS → Option (Int32 × MS)
  | 0, _, _, _, _, _, _, _, _ => none
  | n + 1, x0, x1, x3, x4, x5, x6, x7, S => (if (4 : Int32) ≤ x7 then K38 x0 x1 x3 (x4 + (1 : Int32)) S else (fX10_downBy  x7 S).bind fun q6 => (fX10_rightBy  x7 S).bind fun q8 => (fX8_isCell  x1 (x5 + q6) (x6 + q8) S).bind fun q10 => (if q10 = (0 : Int32) then fX3_fewest_155 K38 (fX3_fewest_81 K38 n) x0 x1 x3 x4 x5 x6 x7 S else (fX8_isWall  x1 (x5 + q6) (x6 + q8) S).bind fun q13 => (if q13 = (0 : Int32) then (if bnd x4 (lnX (gR S x0 1)) = true then (if bnd (gI S (gR S x0 1) x4.toNatClampNeg) (lnX (gR S x0 0)) = true then (fX3_reach  x0 (((x5 + q6) * (8 : Int32)) + (x6 + q8)) ((gI S (gR S x0 0) (gI S (gR S x0 1) x4.toNatClampNeg).toNatClampNeg) + (1 : Int32)) S).bind fun q20 => fX3_fewest_155 K38 (fX3_fewest_81 K38 n) x0 x1 x3 x4 x5 x6 x7 q20 else none) else none) else fX3_fewest_155 K38 (fX3_fewest_81 K38 n) x0 x1 x3 x4 x5 x6 x7 S)))
def fX3_fewest_38  : Nat → Nat → Nat → Int32 → Int32 → MS → Option (Int32 × MS)
  | 0, _, _, _, _, _ => none
  | n + 1, x0, x1, x3, x4, S => (if (64 : Int32) ≤ x4 then fX3_fewest_167  x0 x3 S else (if (gI S x0 2) ≤ x4 then fX3_fewest_167  x0 x3 S else (if bnd x4 (lnX (gR S x0 1)) = true then (if bnd x4 (lnX (gR S x0 1)) = true then fX3_fewest_81 (fX3_fewest_38  n) 1000 x0 x1 x3 x4 ((gI S (gR S x0 1) x4.toNatClampNeg) / (8 : Int32)) ((gI S (gR S x0 1) x4.toNatClampNeg) - ((gI S (gR S x0 1) x4.toNatClampNeg) / (8 : Int32)) * (8 : Int32)) (0 : Int32) S else none) else none)))
def fX3_fewest_3  : Nat → Nat → Nat → Int32 → Int32 → Int32 → MS → Option (Int32 × MS)
  | 0, _, _, _, _, _, _ => none
  | n + 1, x0, x1, x2, x3, x4, S => (if (64 : Int32) ≤ x4 then (fX3_reach  x0 x2 (0 : Int32) (pI S x0 2 (0 : Int32))).bind fun q29 => fX3_fewest_38  1000 x0 x1 x3 (0 : Int32) q29 else (if bnd x4 (lnX (gR S x0 0)) = true then (fX3_fewest_3  n) x0 x1 x2 x3 (x4 + (1 : Int32)) (pI S (gR S x0 0) x4.toNatClampNeg (-1 : Int32)) else none))
def fX3_fewest (a0 : Nat) (a1 : Nat) (a2 : Int32) (a3 : Int32) (S : MS) : Option (Int32 × MS) := fX3_fewest_3  1000 a0 a1 a2 a3 (0 : Int32) S
set_option maxRecDepth 100000 in
theorem kX3_fewest_167 {p : Program} {l : Launch} {e : Env} {s : State} {m : MethodId} {av : Array Value} {below : List Frame} {meth : Method} {c : Code} {A : Nat → Prop} {G : Gv} {L : List Nat} {q : (Int32 × MS)}  (C : mC p s m av meth c cX3_fewest RX3 10 (some .int)) : ∀ (x0 : Nat) (x3 : Int32) (S : MS) (H : Heap) (locs : List Loc) (ls : Array Slot), (x0 < shX.1 ∧ shX.2.1 x0 = 3) → mW G shX L S A s H locs → lv_has ls 10 [(0, .ref (ad L x0)), (3, .int x3)] → fX3_fewest_167  x0 x3 S = some q → W p l e (rmd (3)) s m av below meth c H locs 0 0 (MQ below (mQ G shX L q.2 (some (.int q.1)) A) av s 0 0 A) (F0 m 167 ls []) := by
  intro x0 x3 S H locs ls hx0 hW hl hf
  unfold fX3_fewest_167 at hf
  refine lv_iload_n C.1 C.2.1 dX3_fewest_167 rfl (lv_at hl 1 rfl) ?_
  refine lv_if_lt (tgt := 186) C.1 C.2.1 dX3_fewest_168 rfl (fun c1 => ?_) (fun c1 => ?_)
  · have hf := (if_pos c1).symm.trans hf
    refine lv_iconst C.1 C.2.1 dX3_fewest_186 ic_m1 ?_
    cases hf
    exact m_iret C hW dX3_fewest_187
  · have hf := (if_neg c1).symm.trans hf
    refine lv_iload_n C.1 C.2.1 dX3_fewest_171 rfl (lv_at hl 1 rfl) ?_
    refine lv_bipush C.1 C.2.1 dX3_fewest_172 bp_64 ?_
    refine lv_icmp_ge (tgt := 186) C.1 C.2.1 dX3_fewest_174 rfl (fun c2 => ?_) (fun c2 => ?_)
    · have hf := (if_pos c2).symm.trans hf
      refine lv_iconst C.1 C.2.1 dX3_fewest_186 ic_m1 ?_
      cases hf
      exact m_iret C hW dX3_fewest_187
    · have hf := (if_neg c2).symm.trans hf
      refine lv_aload_n C.1 C.2.1 dX3_fewest_177 rfl (lv_at hl 0 rfl) ?_
      refine m_getr C hW hx0 flX3_9 (by decide) dX3_fewest_178 (fun hk3 => ?_)
      refine lv_iload_n C.1 C.2.1 dX3_fewest_181 rfl (lv_at hl 1 rfl) ?_
      obtain ⟨hb4, hf⟩ := gd hf
      refine m_iald C hW hk3 hb4 dX3_fewest_182 ?_
      refine lv_goto (tgt := 187) C.1 C.2.1 dX3_fewest_183 rfl ?_
      cases hf
      exact m_iret C hW dX3_fewest_187

set_option maxRecDepth 100000 in
theorem kX3_fewest_155 {p : Program} {l : Launch} {e : Env} {s : State} {m : MethodId} {av : Array Value} {below : List Frame} {meth : Method} {c : Code} {A : Nat → Prop} {G : Gv} {L : List Nat} {q : (Int32 × MS)} {K38 : Nat → Nat → Int32 → Int32 → MS → Option (Int32 × MS)} {K81 : Nat → Nat → Int32 → Int32 → Int32 → Int32 → Int32 → MS → Option (Int32 × MS)} (hK38 : ∀ (x0 : Nat) (x1 : Nat) (x3 : Int32) (x4 : Int32) (S : MS) (H : Heap) (locs : List Loc) (ls : Array Slot), (x0 < shX.1 ∧ shX.2.1 x0 = 3) → (x1 < shX.1 ∧ shX.2.1 x1 = 8) → mW G shX L S A s H locs → lv_has ls 10 [(0, .ref (ad L x0)), (1, .ref (ad L x1)), (3, .int x3), (4, .int x4)] → K38 x0 x1 x3 x4 S = some q → W p l e (rmd (3)) s m av below meth c H locs 0 0 (MQ below (mQ G shX L q.2 (some (.int q.1)) A) av s 0 0 A) (F0 m 38 ls [])) (hK81 : ∀ (x0 : Nat) (x1 : Nat) (x3 : Int32) (x4 : Int32) (x5 : Int32) (x6 : Int32) (x7 : Int32) (S : MS) (H : Heap) (locs : List Loc) (ls : Array Slot), (x0 < shX.1 ∧ shX.2.1 x0 = 3) → (x1 < shX.1 ∧ shX.2.1 x1 = 8) → mW G shX L S A s H locs → lv_has ls 10 [(0, .ref (ad L x0)), (1, .ref (ad L x1)), (3, .int x3), (4, .int x4), (5, .int x5), (6, .int x6), (7, .int x7)] → K81 x0 x1 x3 x4 x5 x6 x7 S = some q → W p l e (rmd (3)) s m av below meth c H locs 0 0 (MQ below (mQ G shX L q.2 (some (.int q.1)) A) av s 0 0 A) (F0 m 81 ls [])) (C : mC p s m av meth c cX3_fewest RX3 10 (some .int)) : ∀ (x0 : Nat) (x1 : Nat) (x3 : Int32) (x4 : Int32) (x5 : Int32) (x6 : Int32) (x7 : Int32) (S : MS) (H : Heap) (locs : List Loc) (ls : Array Slot), (x0 < shX.1 ∧ shX.2.1 x0 = 3) → (x1 < shX.1 ∧ shX.2.1 x1 = 8) → mW G shX L S A s H locs → lv_has ls 10 [(0, .ref (ad L x0)), (1, .ref (ad L x1)), (3, .int x3), (4, .int x4), (5, .int x5), (6, .int x6), (7, .int x7)] → fX3_fewest_155 K38 K81 x0 x1 x3 x4 x5 x6 x7 S = some q → W p l e (rmd (3)) s m av below meth c H locs 0 0 (MQ below (mQ G shX L q.2 (some (.int q.1)) A) av s 0 0 A) (F0 m 155 ls []) := by
  intro x0 x1 x3 x4 x5 x6 x7 S H locs ls hx0 hx1 hW hl hf
  unfold fX3_fewest_155 at hf
  refine lv_iinc (v := x7 + (1 : Int32)) (lv' := [(7, .int (x7 + (1 : Int32))), (0, .ref (ad L x0)), (1, .ref (ad L x1)), (3, .int x3), (4, .int x4), (5, .int x5), (6, .int x6)]) C.1 C.2.1 dX3_fewest_155 hl (k := 6) rfl (congrArg (fun z => x7 + z) ic_1) (by decide) rfl (fun ls hl => ?_)
  refine lv_goto (tgt := 81) C.1 C.2.1 dX3_fewest_158 rfl ?_
  exact hK81 x0 x1 x3 x4 x5 x6 (x7 + (1 : Int32)) _ _ _ _ hx0 hx1 hW (lv_sub hl [1, 2, 3, 4, 5, 6, 0] rfl) hf

set_option maxRecDepth 100000 in
theorem kX3_fewest_81 {p : Program} {l : Launch} {e : Env} {s : State} {m : MethodId} {av : Array Value} {below : List Frame} {meth : Method} {c : Code} {A : Nat → Prop} {G : Gv} {L : List Nat} {q : (Int32 × MS)} {K38 : Nat → Nat → Int32 → Int32 → MS → Option (Int32 × MS)} (hK38 : ∀ (x0 : Nat) (x1 : Nat) (x3 : Int32) (x4 : Int32) (S : MS) (H : Heap) (locs : List Loc) (ls : Array Slot), (x0 < shX.1 ∧ shX.2.1 x0 = 3) → (x1 < shX.1 ∧ shX.2.1 x1 = 8) → mW G shX L S A s H locs → lv_has ls 10 [(0, .ref (ad L x0)), (1, .ref (ad L x1)), (3, .int x3), (4, .int x4)] → K38 x0 x1 x3 x4 S = some q → W p l e (rmd (3)) s m av below meth c H locs 0 0 (MQ below (mQ G shX L q.2 (some (.int q.1)) A) av s 0 0 A) (F0 m 38 ls [])) (C : mC p s m av meth c cX3_fewest RX3 10 (some .int)) : ∀ (n : Nat) (x0 : Nat) (x1 : Nat) (x3 : Int32) (x4 : Int32) (x5 : Int32) (x6 : Int32) (x7 : Int32) (S : MS) (H : Heap) (locs : List Loc) (ls : Array Slot), (x0 < shX.1 ∧ shX.2.1 x0 = 3) → (x1 < shX.1 ∧ shX.2.1 x1 = 8) → mW G shX L S A s H locs → lv_has ls 10 [(0, .ref (ad L x0)), (1, .ref (ad L x1)), (3, .int x3), (4, .int x4), (5, .int x5), (6, .int x6), (7, .int x7)] → fX3_fewest_81 K38 n x0 x1 x3 x4 x5 x6 x7 S = some q → W p l e (rmd (3)) s m av below meth c H locs 0 0 (MQ below (mQ G shX L q.2 (some (.int q.1)) A) av s 0 0 A) (F0 m 81 ls []) := by
  intro n
  induction n with
  | zero =>
    intro x0 x1 x3 x4 x5 x6 x7 S H locs ls hx0 hx1 hW hl hf
    rw [fX3_fewest_81] at hf
    cases hf
  | succ n ih =>
    intro x0 x1 x3 x4 x5 x6 x7 S H locs ls hx0 hx1 hW hl hf
    rw [fX3_fewest_81] at hf
    refine lv_iload C.1 C.2.1 dX3_fewest_81 (lv_at hl 6 rfl) ?_
    refine lv_iconst C.1 C.2.1 dX3_fewest_83 ic_4 ?_
    refine lv_icmp_ge (tgt := 161) C.1 C.2.1 dX3_fewest_84 rfl (fun c5 => ?_) (fun c5 => ?_)
    · have hf := (if_pos c5).symm.trans hf
      refine lv_iinc (v := x4 + (1 : Int32)) (lv' := [(4, .int (x4 + (1 : Int32))), (0, .ref (ad L x0)), (1, .ref (ad L x1)), (3, .int x3), (5, .int x5), (6, .int x6), (7, .int x7)]) C.1 C.2.1 dX3_fewest_161 hl (k := 3) rfl (congrArg (fun z => x4 + z) ic_1) (by decide) rfl (fun ls hl => ?_)
      refine lv_goto (tgt := 38) C.1 C.2.1 dX3_fewest_164 rfl ?_
      exact hK38 x0 x1 x3 (x4 + (1 : Int32)) _ _ _ _ hx0 hx1 hW (lv_sub hl [1, 2, 3, 0] rfl) hf
    · have hf := (if_neg c5).symm.trans hf
      refine lv_iload C.1 C.2.1 dX3_fewest_87 (lv_at hl 4 rfl) ?_
      refine lv_iload C.1 C.2.1 dX3_fewest_89 (lv_at hl 6 rfl) ?_
      obtain ⟨q6, h7, hf⟩ := bd hf
      refine m_callS (As := [.int x7]) (rest := [.int x5]) C hW (cX10_downBy_ok   h7) mlX3_26 rfl hl.1 rfl (Nat.le_of_ble_eq_true rfl) (Nat.le_of_ble_eq_true rfl) (Nat.le_of_ble_eq_true rfl) dX3_fewest_91 (fun H locs hW => ?_)
      refine lv_iadd C.1 C.2.1 dX3_fewest_94 ?_
      refine lv_istore (lv' := [(8, .int (x5 + q6)), (0, .ref (ad L x0)), (1, .ref (ad L x1)), (3, .int x3), (4, .int x4), (5, .int x5), (6, .int x6), (7, .int x7)]) C.1 C.2.1 dX3_fewest_95 hl (by decide) rfl (fun ls hl => ?_)
      refine lv_iload C.1 C.2.1 dX3_fewest_97 (lv_at hl 6 rfl) ?_
      refine lv_iload C.1 C.2.1 dX3_fewest_99 (lv_at hl 7 rfl) ?_
      obtain ⟨q8, h9, hf⟩ := bd hf
      refine m_callS (As := [.int x7]) (rest := [.int x6]) C hW (cX10_rightBy_ok   h9) mlX3_30 rfl hl.1 rfl (Nat.le_of_ble_eq_true rfl) (Nat.le_of_ble_eq_true rfl) (Nat.le_of_ble_eq_true rfl) dX3_fewest_101 (fun H locs hW => ?_)
      refine lv_iadd C.1 C.2.1 dX3_fewest_104 ?_
      refine lv_istore (lv' := [(9, .int (x6 + q8)), (8, .int (x5 + q6)), (0, .ref (ad L x0)), (1, .ref (ad L x1)), (3, .int x3), (4, .int x4), (5, .int x5), (6, .int x6), (7, .int x7)]) C.1 C.2.1 dX3_fewest_105 hl (by decide) rfl (fun ls hl => ?_)
      refine lv_aload_n C.1 C.2.1 dX3_fewest_107 rfl (lv_at hl 3 rfl) ?_
      refine lv_iload C.1 C.2.1 dX3_fewest_108 (lv_at hl 1 rfl) ?_
      refine lv_iload C.1 C.2.1 dX3_fewest_110 (lv_at hl 0 rfl) ?_
      obtain ⟨q10, h11, hf⟩ := bd hf
      refine m_callV (As := [.int (x5 + q6), .int (x6 + q8)]) (rest := []) C hW hx1 (cX8_isCell_ok  hx1 h11) mlX3_33 (by decide) rfl hl.1 rfl (Nat.le_of_ble_eq_true rfl) (Nat.le_of_ble_eq_true rfl) (Nat.le_of_ble_eq_true rfl) dX3_fewest_112 (fun H locs hW => ?_)
      refine lv_if_eq (tgt := 155) C.1 C.2.1 dX3_fewest_115 rfl (fun c12 => ?_) (fun c12 => ?_)
      · have hf := (if_pos c12).symm.trans hf
        exact kX3_fewest_155 hK38 ih C x0 x1 x3 x4 x5 x6 x7 _ _ _ _ hx0 hx1 hW (lv_sub hl [2, 3, 4, 5, 6, 7, 8] rfl) hf
      · have hf := (if_neg c12).symm.trans hf
        refine lv_aload_n C.1 C.2.1 dX3_fewest_118 rfl (lv_at hl 3 rfl) ?_
        refine lv_iload C.1 C.2.1 dX3_fewest_119 (lv_at hl 1 rfl) ?_
        refine lv_iload C.1 C.2.1 dX3_fewest_121 (lv_at hl 0 rfl) ?_
        obtain ⟨q13, h14, hf⟩ := bd hf
        refine m_callV (As := [.int (x5 + q6), .int (x6 + q8)]) (rest := []) C hW hx1 (cX8_isWall_ok  hx1 h14) mlX3_39 (by decide) rfl hl.1 rfl (Nat.le_of_ble_eq_true rfl) (Nat.le_of_ble_eq_true rfl) (Nat.le_of_ble_eq_true rfl) dX3_fewest_123 (fun H locs hW => ?_)
        refine lv_if_ne (tgt := 155) C.1 C.2.1 dX3_fewest_126 rfl (fun c15 => ?_) (fun c15 => ?_)
        · have hf := (if_neg c15).symm.trans hf
          exact kX3_fewest_155 hK38 ih C x0 x1 x3 x4 x5 x6 x7 _ _ _ _ hx0 hx1 hW (lv_sub hl [2, 3, 4, 5, 6, 7, 8] rfl) hf
        · have hf := (if_pos c15).symm.trans hf
          refine lv_aload_n C.1 C.2.1 dX3_fewest_129 rfl (lv_at hl 2 rfl) ?_
          refine lv_iload C.1 C.2.1 dX3_fewest_130 (lv_at hl 1 rfl) ?_
          refine lv_bipush C.1 C.2.1 dX3_fewest_132 bp_8 ?_
          refine lv_imul C.1 C.2.1 dX3_fewest_134 ?_
          refine lv_iload C.1 C.2.1 dX3_fewest_135 (lv_at hl 0 rfl) ?_
          refine lv_iadd C.1 C.2.1 dX3_fewest_137 ?_
          refine lv_aload_n C.1 C.2.1 dX3_fewest_138 rfl (lv_at hl 2 rfl) ?_
          refine m_getr C hW hx0 flX3_9 (by decide) dX3_fewest_139 (fun hk16 => ?_)
          refine lv_aload_n C.1 C.2.1 dX3_fewest_142 rfl (lv_at hl 2 rfl) ?_
          refine m_getr C hW hx0 flX3_15 (by decide) dX3_fewest_143 (fun hk17 => ?_)
          refine lv_iload C.1 C.2.1 dX3_fewest_146 (lv_at hl 5 rfl) ?_
          obtain ⟨hb18, hf⟩ := gd hf
          refine m_iald C hW hk17 hb18 dX3_fewest_148 ?_
          obtain ⟨hb19, hf⟩ := gd hf
          refine m_iald C hW hk16 hb19 dX3_fewest_149 ?_
          refine lv_iconst C.1 C.2.1 dX3_fewest_150 ic_1 ?_
          refine lv_iadd C.1 C.2.1 dX3_fewest_151 ?_
          obtain ⟨q20, h21, hf⟩ := bd hf
          refine m_callV (As := [.int (((x5 + q6) * (8 : Int32)) + (x6 + q8)), .int ((gI S (gR S x0 0) (gI S (gR S x0 1) x4.toNatClampNeg).toNatClampNeg) + (1 : Int32))]) (rest := []) C hW hx0 (cX3_reach_ok  hx0 h21) mlX3_22 (by decide) rfl hl.1 rfl (Nat.le_of_ble_eq_true rfl) (Nat.le_of_ble_eq_true rfl) (Nat.le_of_ble_eq_true rfl) dX3_fewest_152 (fun H locs hW => ?_)
          exact kX3_fewest_155 hK38 ih C x0 x1 x3 x4 x5 x6 x7 _ _ _ _ hx0 hx1 hW (lv_sub hl [2, 3, 4, 5, 6, 7, 8] rfl) hf

set_option maxRecDepth 100000 in
theorem kX3_fewest_38 {p : Program} {l : Launch} {e : Env} {s : State} {m : MethodId} {av : Array Value} {below : List Frame} {meth : Method} {c : Code} {A : Nat → Prop} {G : Gv} {L : List Nat} {q : (Int32 × MS)}  (C : mC p s m av meth c cX3_fewest RX3 10 (some .int)) : ∀ (n : Nat) (x0 : Nat) (x1 : Nat) (x3 : Int32) (x4 : Int32) (S : MS) (H : Heap) (locs : List Loc) (ls : Array Slot), (x0 < shX.1 ∧ shX.2.1 x0 = 3) → (x1 < shX.1 ∧ shX.2.1 x1 = 8) → mW G shX L S A s H locs → lv_has ls 10 [(0, .ref (ad L x0)), (1, .ref (ad L x1)), (3, .int x3), (4, .int x4)] → fX3_fewest_38  n x0 x1 x3 x4 S = some q → W p l e (rmd (3)) s m av below meth c H locs 0 0 (MQ below (mQ G shX L q.2 (some (.int q.1)) A) av s 0 0 A) (F0 m 38 ls []) := by
  intro n
  induction n with
  | zero =>
    intro x0 x1 x3 x4 S H locs ls hx0 hx1 hW hl hf
    rw [fX3_fewest_38] at hf
    cases hf
  | succ n ih =>
    intro x0 x1 x3 x4 S H locs ls hx0 hx1 hW hl hf
    rw [fX3_fewest_38] at hf
    refine lv_iload C.1 C.2.1 dX3_fewest_38 (lv_at hl 3 rfl) ?_
    refine lv_bipush C.1 C.2.1 dX3_fewest_40 bp_64 ?_
    refine lv_icmp_ge (tgt := 167) C.1 C.2.1 dX3_fewest_42 rfl (fun c22 => ?_) (fun c22 => ?_)
    · have hf := (if_pos c22).symm.trans hf
      exact kX3_fewest_167  C x0 x3 _ _ _ _ hx0 hW (lv_sub hl [0, 2] rfl) hf
    · have hf := (if_neg c22).symm.trans hf
      refine lv_iload C.1 C.2.1 dX3_fewest_45 (lv_at hl 3 rfl) ?_
      refine lv_aload_n C.1 C.2.1 dX3_fewest_47 rfl (lv_at hl 0 rfl) ?_
      refine m_geti C hW hx0 flX3_18 dX3_fewest_48 ?_
      refine lv_icmp_ge (tgt := 167) C.1 C.2.1 dX3_fewest_51 rfl (fun c23 => ?_) (fun c23 => ?_)
      · have hf := (if_pos c23).symm.trans hf
        exact kX3_fewest_167  C x0 x3 _ _ _ _ hx0 hW (lv_sub hl [0, 2] rfl) hf
      · have hf := (if_neg c23).symm.trans hf
        refine lv_aload_n C.1 C.2.1 dX3_fewest_54 rfl (lv_at hl 0 rfl) ?_
        refine m_getr C hW hx0 flX3_15 (by decide) dX3_fewest_55 (fun hk24 => ?_)
        refine lv_iload C.1 C.2.1 dX3_fewest_58 (lv_at hl 3 rfl) ?_
        obtain ⟨hb25, hf⟩ := gd hf
        refine m_iald C hW hk24 hb25 dX3_fewest_60 ?_
        refine lv_bipush C.1 C.2.1 dX3_fewest_61 bp_8 ?_
        refine lv_idiv C.1 C.2.1 dX3_fewest_63 (by decide) ?_
        refine lv_istore (lv' := [(5, .int ((gI S (gR S x0 1) x4.toNatClampNeg) / (8 : Int32))), (0, .ref (ad L x0)), (1, .ref (ad L x1)), (3, .int x3), (4, .int x4)]) C.1 C.2.1 dX3_fewest_64 hl (by decide) rfl (fun ls hl => ?_)
        refine lv_aload_n C.1 C.2.1 dX3_fewest_66 rfl (lv_at hl 1 rfl) ?_
        refine m_getr C hW hx0 flX3_15 (by decide) dX3_fewest_67 (fun hk26 => ?_)
        refine lv_iload C.1 C.2.1 dX3_fewest_70 (lv_at hl 4 rfl) ?_
        obtain ⟨hb27, hf⟩ := gd hf
        refine m_iald C hW hk26 hb27 dX3_fewest_72 ?_
        refine lv_bipush C.1 C.2.1 dX3_fewest_73 bp_8 ?_
        refine lv_irem C.1 C.2.1 dX3_fewest_75 (by decide) ?_
        refine lv_istore (lv' := [(6, .int ((gI S (gR S x0 1) x4.toNatClampNeg) - ((gI S (gR S x0 1) x4.toNatClampNeg) / (8 : Int32)) * (8 : Int32))), (5, .int ((gI S (gR S x0 1) x4.toNatClampNeg) / (8 : Int32))), (0, .ref (ad L x0)), (1, .ref (ad L x1)), (3, .int x3), (4, .int x4)]) C.1 C.2.1 dX3_fewest_76 hl (by decide) rfl (fun ls hl => ?_)
        refine lv_iconst C.1 C.2.1 dX3_fewest_78 ic_0 ?_
        refine lv_istore (lv' := [(7, .int (0 : Int32)), (6, .int ((gI S (gR S x0 1) x4.toNatClampNeg) - ((gI S (gR S x0 1) x4.toNatClampNeg) / (8 : Int32)) * (8 : Int32))), (5, .int ((gI S (gR S x0 1) x4.toNatClampNeg) / (8 : Int32))), (0, .ref (ad L x0)), (1, .ref (ad L x1)), (3, .int x3), (4, .int x4)]) C.1 C.2.1 dX3_fewest_79 hl (by decide) rfl (fun ls hl => ?_)
        exact kX3_fewest_81 ih C 1000 x0 x1 x3 x4 ((gI S (gR S x0 1) x4.toNatClampNeg) / (8 : Int32)) ((gI S (gR S x0 1) x4.toNatClampNeg) - ((gI S (gR S x0 1) x4.toNatClampNeg) / (8 : Int32)) * (8 : Int32)) (0 : Int32) _ _ _ _ hx0 hx1 hW (lv_sub hl [3, 4, 5, 6, 2, 1, 0] rfl) hf

set_option maxRecDepth 100000 in
theorem kX3_fewest_3 {p : Program} {l : Launch} {e : Env} {s : State} {m : MethodId} {av : Array Value} {below : List Frame} {meth : Method} {c : Code} {A : Nat → Prop} {G : Gv} {L : List Nat} {q : (Int32 × MS)}  (C : mC p s m av meth c cX3_fewest RX3 10 (some .int)) : ∀ (n : Nat) (x0 : Nat) (x1 : Nat) (x2 : Int32) (x3 : Int32) (x4 : Int32) (S : MS) (H : Heap) (locs : List Loc) (ls : Array Slot), (x0 < shX.1 ∧ shX.2.1 x0 = 3) → (x1 < shX.1 ∧ shX.2.1 x1 = 8) → mW G shX L S A s H locs → lv_has ls 10 [(0, .ref (ad L x0)), (1, .ref (ad L x1)), (2, .int x2), (3, .int x3), (4, .int x4)] → fX3_fewest_3  n x0 x1 x2 x3 x4 S = some q → W p l e (rmd (3)) s m av below meth c H locs 0 0 (MQ below (mQ G shX L q.2 (some (.int q.1)) A) av s 0 0 A) (F0 m 3 ls []) := by
  intro n
  induction n with
  | zero =>
    intro x0 x1 x2 x3 x4 S H locs ls hx0 hx1 hW hl hf
    rw [fX3_fewest_3] at hf
    cases hf
  | succ n ih =>
    intro x0 x1 x2 x3 x4 S H locs ls hx0 hx1 hW hl hf
    rw [fX3_fewest_3] at hf
    refine lv_iload C.1 C.2.1 dX3_fewest_3 (lv_at hl 4 rfl) ?_
    refine lv_bipush C.1 C.2.1 dX3_fewest_5 bp_64 ?_
    refine lv_icmp_ge (tgt := 24) C.1 C.2.1 dX3_fewest_7 rfl (fun c28 => ?_) (fun c28 => ?_)
    · have hf := (if_pos c28).symm.trans hf
      refine lv_aload_n C.1 C.2.1 dX3_fewest_24 rfl (lv_at hl 0 rfl) ?_
      refine lv_iconst C.1 C.2.1 dX3_fewest_25 ic_0 ?_
      refine m_puti C hW hx0 fpX3_18 dX3_fewest_26 (fun H locs hW => ?_)
      refine lv_aload_n C.1 C.2.1 dX3_fewest_29 rfl (lv_at hl 0 rfl) ?_
      refine lv_iload_n C.1 C.2.1 dX3_fewest_30 rfl (lv_at hl 2 rfl) ?_
      refine lv_iconst C.1 C.2.1 dX3_fewest_31 ic_0 ?_
      obtain ⟨q29, h30, hf⟩ := bd hf
      refine m_callV (As := [.int x2, .int (0 : Int32)]) (rest := []) C hW hx0 (cX3_reach_ok  hx0 h30) mlX3_22 (by decide) rfl hl.1 rfl (Nat.le_of_ble_eq_true rfl) (Nat.le_of_ble_eq_true rfl) (Nat.le_of_ble_eq_true rfl) dX3_fewest_32 (fun H locs hW => ?_)
      refine lv_iconst C.1 C.2.1 dX3_fewest_35 ic_0 ?_
      refine lv_istore (lv' := [(4, .int (0 : Int32)), (0, .ref (ad L x0)), (1, .ref (ad L x1)), (2, .int x2), (3, .int x3)]) C.1 C.2.1 dX3_fewest_36 hl (by decide) rfl (fun ls hl => ?_)
      exact kX3_fewest_38  C 1000 x0 x1 x3 (0 : Int32) _ _ _ _ hx0 hx1 hW (lv_sub hl [1, 2, 4, 0] rfl) hf
    · have hf := (if_neg c28).symm.trans hf
      refine lv_aload_n C.1 C.2.1 dX3_fewest_10 rfl (lv_at hl 0 rfl) ?_
      refine m_getr C hW hx0 flX3_9 (by decide) dX3_fewest_11 (fun hk31 => ?_)
      refine lv_iload C.1 C.2.1 dX3_fewest_14 (lv_at hl 4 rfl) ?_
      refine lv_iconst C.1 C.2.1 dX3_fewest_16 ic_m1 ?_
      obtain ⟨hb32, hf⟩ := gd hf
      refine m_iast C hW hk31 hb32 dX3_fewest_17 (fun H locs hW => ?_)
      refine lv_iinc (v := x4 + (1 : Int32)) (lv' := [(4, .int (x4 + (1 : Int32))), (0, .ref (ad L x0)), (1, .ref (ad L x1)), (2, .int x2), (3, .int x3)]) C.1 C.2.1 dX3_fewest_18 hl (k := 4) rfl (congrArg (fun z => x4 + z) ic_1) (by decide) rfl (fun ls hl => ?_)
      refine lv_goto (tgt := 3) C.1 C.2.1 dX3_fewest_21 rfl ?_
      exact ih x0 x1 x2 x3 (x4 + (1 : Int32)) _ _ _ _ hx0 hx1 hW (lv_sub hl [1, 2, 3, 4, 0] rfl) hf

set_option maxRecDepth 100000 in
theorem cX3_fewest_ok {l : Launch} {G : Gv} {L : List Nat} {S : MS} {a0 : Nat} {a1 : Nat} {a2 : Int32} {a3 : Int32} {q : (Int32 × MS)} (ha0 : a0 < shX.1 ∧ shX.2.1 a0 = 3) (ha1 : a1 < shX.1 ∧ shX.2.1 a1 = 8) (hf : fX3_fewest a0 a1 a2 a3 S = some q) : Mt l yX3_fewest cX3_fewest 10 (some .int) (3) G shX L S [.ref (ad L a0), .ref (ad L a1), .int a2, .int a3] (some (.int q.1)) q.2 := by
  refine m_enter (lv := [(0, .ref (ad L a0)), (1, .ref (ad L a1)), (2, .int a2), (3, .int a3)]) (plainFor_of_name (by decide)) (Nat.le_of_ble_eq_true rfl) rfl ?_
  intro p e s m below meth c A ls C hW hl
  unfold fX3_fewest at hf
  refine lv_iconst C.1 C.2.1 dX3_fewest_0 ic_0 ?_
  refine lv_istore (lv' := [(4, .int (0 : Int32)), (0, .ref (ad L a0)), (1, .ref (ad L a1)), (2, .int a2), (3, .int a3)]) C.1 C.2.1 dX3_fewest_1 hl (by decide) rfl (fun ls hl => ?_)
  exact kX3_fewest_3  C 1000 a0 a1 a2 a3 (0 : Int32) _ _ _ _ ha0 ha1 hW (lv_sub hl [1, 2, 3, 4, 0] rfl) hf

def fX4_weigh_42  : Nat → Nat → Int32 → MS → Option MS
  | 0, _, _, _ => none
  | n + 1, x0, x2, S => (if (4 : Int32) ≤ x2 then some S else (if bnd x2 (lnX (gR S x0 1)) = true then (if bnd x2 (lnX (gR S x0 0)) = true then (fX4_weigh_42  n) x0 (x2 + (1 : Int32)) (pI S (gR S x0 0) x2.toNatClampNeg (gI S (gR S x0 1) x2.toNatClampNeg)) else none) else none))
def fX4_weigh (a0 : Nat) (S : MS) : Option MS := (if bnd (4 : Int32) (lnX (gR S a0 2)) = true then (fX8_worthOf  (gR S (gR S a0 3) 1) ((gI S (gR S (gR S a0 2) (4 : Int32).toNatClampNeg) 8) ^^^ (-1 : Int32)) S).bind fun q11 => (if ((gI S a0 5) - q11) ≤ (gI S a0 4) then some S else fX4_weigh_42  1000 a0 (0 : Int32) (pI S a0 4 ((gI S a0 5) - q11))) else none)
set_option maxRecDepth 100000 in
theorem kX4_weigh_42 {p : Program} {l : Launch} {e : Env} {s : State} {m : MethodId} {av : Array Value} {below : List Frame} {meth : Method} {c : Code} {A : Nat → Prop} {G : Gv} {L : List Nat} {q : MS}  (C : mC p s m av meth c cX4_weigh RX4 3 none) : ∀ (n : Nat) (x0 : Nat) (x2 : Int32) (S : MS) (H : Heap) (locs : List Loc) (ls : Array Slot), (x0 < shX.1 ∧ shX.2.1 x0 = 4) → mW G shX L S A s H locs → lv_has ls 3 [(0, .ref (ad L x0)), (2, .int x2)] → fX4_weigh_42  n x0 x2 S = some q → W p l e (rmd (3)) s m av below meth c H locs 0 0 (MQ below (mQ G shX L q none A) av s 0 0 A) (F0 m 42 ls []) := by
  intro n
  induction n with
  | zero =>
    intro x0 x2 S H locs ls hx0 hW hl hf
    rw [fX4_weigh_42] at hf
    cases hf
  | succ n ih =>
    intro x0 x2 S H locs ls hx0 hW hl hf
    rw [fX4_weigh_42] at hf
    refine lv_iload_n C.1 C.2.1 dX4_weigh_42 rfl (lv_at hl 1 rfl) ?_
    refine lv_iconst C.1 C.2.1 dX4_weigh_43 ic_4 ?_
    refine lv_icmp_ge (tgt := 65) C.1 C.2.1 dX4_weigh_44 rfl (fun c1 => ?_) (fun c1 => ?_)
    · have hf := (if_pos c1).symm.trans hf
      cases hf
      exact m_vret C hW dX4_weigh_65
    · have hf := (if_neg c1).symm.trans hf
      refine lv_aload_n C.1 C.2.1 dX4_weigh_47 rfl (lv_at hl 0 rfl) ?_
      refine m_getr C hW hx0 flX4_9 (by decide) dX4_weigh_48 (fun hk2 => ?_)
      refine lv_iload_n C.1 C.2.1 dX4_weigh_51 rfl (lv_at hl 1 rfl) ?_
      refine lv_aload_n C.1 C.2.1 dX4_weigh_52 rfl (lv_at hl 0 rfl) ?_
      refine m_getr C hW hx0 flX4_15 (by decide) dX4_weigh_53 (fun hk3 => ?_)
      refine lv_iload_n C.1 C.2.1 dX4_weigh_56 rfl (lv_at hl 1 rfl) ?_
      obtain ⟨hb4, hf⟩ := gd hf
      refine m_iald C hW hk3 hb4 dX4_weigh_57 ?_
      obtain ⟨hb5, hf⟩ := gd hf
      refine m_iast C hW hk2 hb5 dX4_weigh_58 (fun H locs hW => ?_)
      refine lv_iinc (v := x2 + (1 : Int32)) (lv' := [(2, .int (x2 + (1 : Int32))), (0, .ref (ad L x0))]) C.1 C.2.1 dX4_weigh_59 hl (k := 1) rfl (congrArg (fun z => x2 + z) ic_1) (by decide) rfl (fun ls hl => ?_)
      refine lv_goto (tgt := 42) C.1 C.2.1 dX4_weigh_62 rfl ?_
      exact ih x0 (x2 + (1 : Int32)) _ _ _ _ hx0 hW (lv_sub hl [1, 0] rfl) hf

set_option maxRecDepth 100000 in
theorem cX4_weigh_ok {l : Launch} {G : Gv} {L : List Nat} {S : MS} {a0 : Nat} {q : MS} (ha0 : a0 < shX.1 ∧ shX.2.1 a0 = 4) (hf : fX4_weigh a0 S = some q) : Mt l yX4_weigh cX4_weigh 3 none (3) G shX L S [.ref (ad L a0)] none q := by
  refine m_enter (lv := [(0, .ref (ad L a0))]) (plainFor_of_name (by decide)) (Nat.le_of_ble_eq_true rfl) rfl ?_
  intro p e s m below meth c A ls C hW hl
  unfold fX4_weigh at hf
  refine lv_aload_n C.1 C.2.1 dX4_weigh_0 rfl (lv_at hl 0 rfl) ?_
  refine m_geti C hW ha0 flX4_48 dX4_weigh_1 ?_
  refine lv_aload_n C.1 C.2.1 dX4_weigh_4 rfl (lv_at hl 0 rfl) ?_
  refine m_getr C hW ha0 flX4_25 (by decide) dX4_weigh_5 (fun hk6 => ?_)
  refine m_getr C hW hk6 flX4_33 (by decide) dX4_weigh_8 (fun hk7 => ?_)
  refine lv_aload_n C.1 C.2.1 dX4_weigh_11 rfl (lv_at hl 0 rfl) ?_
  refine m_getr C hW ha0 flX4_21 (by decide) dX4_weigh_12 (fun hk8 => ?_)
  refine lv_iconst C.1 C.2.1 dX4_weigh_15 ic_4 ?_
  obtain ⟨hb9, hf⟩ := gd hf
  refine m_aald (kt := 9) C hW hk8 (by decide) hb9 dX4_weigh_16 (fun hk10 => ?_)
  refine m_geti C hW hk10 flX4_39 dX4_weigh_17 ?_
  refine lv_iconst C.1 C.2.1 dX4_weigh_20 ic_m1 ?_
  refine lv_ixor C.1 C.2.1 dX4_weigh_21 ?_
  obtain ⟨q11, h12, hf⟩ := bd hf
  refine m_callV (As := [.int ((gI S (gR S (gR S a0 2) (4 : Int32).toNatClampNeg) 8) ^^^ (-1 : Int32))]) (rest := [.int (gI S a0 5)]) C hW hk7 (cX8_worthOf_ok  hk7 h12) mlX4_42 (by decide) rfl hl.1 rfl (Nat.le_of_ble_eq_true rfl) (Nat.le_of_ble_eq_true rfl) (Nat.le_of_ble_eq_true rfl) dX4_weigh_22 (fun H locs hW => ?_)
  refine lv_isub C.1 C.2.1 dX4_weigh_25 ?_
  refine lv_istore_n (lv' := [(1, .int ((gI S a0 5) - q11)), (0, .ref (ad L a0))]) C.1 C.2.1 dX4_weigh_26 rfl hl (by decide) rfl (fun ls hl => ?_)
  refine lv_iload_n C.1 C.2.1 dX4_weigh_27 rfl (lv_at hl 0 rfl) ?_
  refine lv_aload_n C.1 C.2.1 dX4_weigh_28 rfl (lv_at hl 1 rfl) ?_
  refine m_geti C hW ha0 flX4_29 dX4_weigh_29 ?_
  refine lv_icmp_le (tgt := 65) C.1 C.2.1 dX4_weigh_32 rfl (fun c13 => ?_) (fun c13 => ?_)
  · have hf := (if_pos c13).symm.trans hf
    cases hf
    exact m_vret C hW dX4_weigh_65
  · have hf := (if_neg c13).symm.trans hf
    refine lv_aload_n C.1 C.2.1 dX4_weigh_35 rfl (lv_at hl 1 rfl) ?_
    refine lv_iload_n C.1 C.2.1 dX4_weigh_36 rfl (lv_at hl 0 rfl) ?_
    refine m_puti C hW ha0 fpX4_29 dX4_weigh_37 (fun H locs hW => ?_)
    refine lv_iconst C.1 C.2.1 dX4_weigh_40 ic_0 ?_
    refine lv_istore_n (lv' := [(2, .int (0 : Int32)), (1, .int ((gI S a0 5) - q11)), (0, .ref (ad L a0))]) C.1 C.2.1 dX4_weigh_41 rfl hl (by decide) rfl (fun ls hl => ?_)
    exact kX4_weigh_42  C 1000 a0 (0 : Int32) _ _ _ _ ha0 hW (lv_sub hl [2, 0] rfl) hf

def fX5_next_60  (x0 : Nat) (S : MS) : Option MS := (if (gI (pI (pI S x0 7 (gI S x0 4)) x0 6 (0 : Int32)) x0 4) < (gI (pI (pI S x0 7 (gI S x0 4)) x0 6 (0 : Int32)) x0 3) then (if bnd (gI (pI (pI S x0 7 (gI S x0 4)) x0 6 (0 : Int32)) x0 4) (lnX (gR (pI (pI S x0 7 (gI S x0 4)) x0 6 (0 : Int32)) x0 2)) = true then (fX5_isLetter  (gI (pI (pI S x0 7 (gI S x0 4)) x0 6 (0 : Int32)) (gR (pI (pI S x0 7 (gI S x0 4)) x0 6 (0 : Int32)) x0 2) (gI (pI (pI S x0 7 (gI S x0 4)) x0 6 (0 : Int32)) x0 4).toNatClampNeg) (pI (pI S x0 7 (gI S x0 4)) x0 6 (0 : Int32))).bind fun q4 => (if q4 = (0 : Int32) then (if bnd (gI (pI (pI S x0 7 (gI S x0 4)) x0 6 (0 : Int32)) x0 4) (lnX (gR (pI (pI S x0 7 (gI S x0 4)) x0 6 (0 : Int32)) x0 2)) = true then (fX5_isDigit  (gI (pI (pI S x0 7 (gI S x0 4)) x0 6 (0 : Int32)) (gR (pI (pI S x0 7 (gI S x0 4)) x0 6 (0 : Int32)) x0 2) (gI (pI (pI S x0 7 (gI S x0 4)) x0 6 (0 : Int32)) x0 4).toNatClampNeg) (pI (pI S x0 7 (gI S x0 4)) x0 6 (0 : Int32))).bind fun q9 => (if q9 = (0 : Int32) then (fX5_scanSign  x0 (pI (pI S x0 7 (gI S x0 4)) x0 6 (0 : Int32))).bind fun q12 => some q12 else (fX5_scanNumber  x0 (pI (pI S x0 7 (gI S x0 4)) x0 6 (0 : Int32))).bind fun q14 => some q14) else none) else (fX5_scanWord  x0 (pI (pI S x0 7 (gI S x0 4)) x0 6 (0 : Int32))).bind fun q16 => some q16) else none) else some (pI (pI (pI S x0 7 (gI S x0 4)) x0 6 (0 : Int32)) x0 5 (0 : Int32)))
def fX5_next_47 (K8 : Nat → MS → Option MS) (x0 : Nat) (S : MS) : Option MS := K8 x0 (pI S x0 4 ((gI S x0 4) + (1 : Int32)))
def fX5_next_8  : Nat → Nat → MS → Option MS
  | 0, _, _ => none
  | n + 1, x0, S => (if (gI S x0 3) ≤ (gI S x0 4) then fX5_next_60  x0 S else (if bnd (gI S x0 4) (lnX (gR S x0 2)) = true then (if gI S (gR S x0 2) (gI S x0 4).toNatClampNeg = (32 : Int32) then fX5_next_47 (fX5_next_8  n) x0 S else (if bnd (gI S x0 4) (lnX (gR S x0 2)) = true then (if gI S (gR S x0 2) (gI S x0 4).toNatClampNeg = (10 : Int32) then fX5_next_47 (fX5_next_8  n) x0 S else fX5_next_60  x0 S) else none)) else none))
def fX5_next (a0 : Nat) (S : MS) : Option MS := fX5_next_8  1000 a0 (pI S a0 8 (gI S a0 7))
set_option maxRecDepth 100000 in
theorem kX5_next_60 {p : Program} {l : Launch} {e : Env} {s : State} {m : MethodId} {av : Array Value} {below : List Frame} {meth : Method} {c : Code} {A : Nat → Prop} {G : Gv} {L : List Nat} {q : MS}  (C : mC p s m av meth c cX5_next RX5 1 none) : ∀ (x0 : Nat) (S : MS) (H : Heap) (locs : List Loc) (ls : Array Slot), (x0 < shX.1 ∧ shX.2.1 x0 = 5) → mW G shX L S A s H locs → lv_has ls 1 [(0, .ref (ad L x0))] → fX5_next_60  x0 S = some q → W p l e (rmd (3)) s m av below meth c H locs 0 0 (MQ below (mQ G shX L q none A) av s 0 0 A) (F0 m 60 ls []) := by
  intro x0 S H locs ls hx0 hW hl hf
  unfold fX5_next_60 at hf
  refine lv_aload_n C.1 C.2.1 dX5_next_60 rfl (lv_at hl 0 rfl) ?_
  refine lv_aload_n C.1 C.2.1 dX5_next_61 rfl (lv_at hl 0 rfl) ?_
  refine m_geti C hW hx0 flX5_59 dX5_next_62 ?_
  refine m_puti C hW hx0 fpX5_62 dX5_next_65 (fun H locs hW => ?_)
  refine lv_aload_n C.1 C.2.1 dX5_next_68 rfl (lv_at hl 0 rfl) ?_
  refine lv_iconst C.1 C.2.1 dX5_next_69 ic_0 ?_
  refine m_puti C hW hx0 fpX5_217 dX5_next_70 (fun H locs hW => ?_)
  refine lv_aload_n C.1 C.2.1 dX5_next_73 rfl (lv_at hl 0 rfl) ?_
  refine m_geti C hW hx0 flX5_59 dX5_next_74 ?_
  refine lv_aload_n C.1 C.2.1 dX5_next_77 rfl (lv_at hl 0 rfl) ?_
  refine m_geti C hW hx0 flX5_56 dX5_next_78 ?_
  refine lv_icmp_lt (tgt := 92) C.1 C.2.1 dX5_next_81 rfl (fun c1 => ?_) (fun c1 => ?_)
  · have hf := (if_pos c1).symm.trans hf
    refine lv_aload_n C.1 C.2.1 dX5_next_92 rfl (lv_at hl 0 rfl) ?_
    refine m_getr C hW hx0 flX5_20 (by decide) dX5_next_93 (fun hk2 => ?_)
    refine lv_aload_n C.1 C.2.1 dX5_next_96 rfl (lv_at hl 0 rfl) ?_
    refine m_geti C hW hx0 flX5_59 dX5_next_97 ?_
    obtain ⟨hb3, hf⟩ := gd hf
    refine m_bald C hW hk2 hb3 dX5_next_100 ?_
    obtain ⟨q4, h5, hf⟩ := bd hf
    refine m_callS (As := [.int (gI (pI (pI S x0 7 (gI S x0 4)) x0 6 (0 : Int32)) (gR (pI (pI S x0 7 (gI S x0 4)) x0 6 (0 : Int32)) x0 2) (gI (pI (pI S x0 7 (gI S x0 4)) x0 6 (0 : Int32)) x0 4).toNatClampNeg)]) (rest := []) C hW (cX5_isLetter_ok   h5) mlX5_261 rfl hl.1 rfl (Nat.le_of_ble_eq_true rfl) (Nat.le_of_ble_eq_true rfl) (Nat.le_of_ble_eq_true rfl) dX5_next_101 (fun H locs hW => ?_)
    refine lv_if_eq (tgt := 114) C.1 C.2.1 dX5_next_104 rfl (fun c6 => ?_) (fun c6 => ?_)
    · have hf := (if_pos c6).symm.trans hf
      refine lv_aload_n C.1 C.2.1 dX5_next_114 rfl (lv_at hl 0 rfl) ?_
      refine m_getr C hW hx0 flX5_20 (by decide) dX5_next_115 (fun hk7 => ?_)
      refine lv_aload_n C.1 C.2.1 dX5_next_118 rfl (lv_at hl 0 rfl) ?_
      refine m_geti C hW hx0 flX5_59 dX5_next_119 ?_
      obtain ⟨hb8, hf⟩ := gd hf
      refine m_bald C hW hk7 hb8 dX5_next_122 ?_
      obtain ⟨q9, h10, hf⟩ := bd hf
      refine m_callS (As := [.int (gI (pI (pI S x0 7 (gI S x0 4)) x0 6 (0 : Int32)) (gR (pI (pI S x0 7 (gI S x0 4)) x0 6 (0 : Int32)) x0 2) (gI (pI (pI S x0 7 (gI S x0 4)) x0 6 (0 : Int32)) x0 4).toNatClampNeg)]) (rest := []) C hW (cX5_isDigit_ok   h10) mlX5_268 rfl hl.1 rfl (Nat.le_of_ble_eq_true rfl) (Nat.le_of_ble_eq_true rfl) (Nat.le_of_ble_eq_true rfl) dX5_next_123 (fun H locs hW => ?_)
      refine lv_if_eq (tgt := 136) C.1 C.2.1 dX5_next_126 rfl (fun c11 => ?_) (fun c11 => ?_)
      · have hf := (if_pos c11).symm.trans hf
        refine lv_aload_n C.1 C.2.1 dX5_next_136 rfl (lv_at hl 0 rfl) ?_
        obtain ⟨q12, h13, hf⟩ := bd hf
        refine m_callV (As := []) (rest := []) C hW hx0 (cX5_scanSign_ok  hx0 h13) mlX5_274 (by decide) rfl hl.1 rfl (Nat.le_of_ble_eq_true rfl) (Nat.le_of_ble_eq_true rfl) (Nat.le_of_ble_eq_true rfl) dX5_next_137 (fun H locs hW => ?_)
        cases hf
        exact m_vret C hW dX5_next_140
      · have hf := (if_neg c11).symm.trans hf
        refine lv_aload_n C.1 C.2.1 dX5_next_129 rfl (lv_at hl 0 rfl) ?_
        obtain ⟨q14, h15, hf⟩ := bd hf
        refine m_callV (As := []) (rest := []) C hW hx0 (cX5_scanNumber_ok  hx0 h15) mlX5_271 (by decide) rfl hl.1 rfl (Nat.le_of_ble_eq_true rfl) (Nat.le_of_ble_eq_true rfl) (Nat.le_of_ble_eq_true rfl) dX5_next_130 (fun H locs hW => ?_)
        refine lv_goto (tgt := 140) C.1 C.2.1 dX5_next_133 rfl ?_
        cases hf
        exact m_vret C hW dX5_next_140
    · have hf := (if_neg c6).symm.trans hf
      refine lv_aload_n C.1 C.2.1 dX5_next_107 rfl (lv_at hl 0 rfl) ?_
      obtain ⟨q16, h17, hf⟩ := bd hf
      refine m_callV (As := []) (rest := []) C hW hx0 (cX5_scanWord_ok  hx0 h17) mlX5_265 (by decide) rfl hl.1 rfl (Nat.le_of_ble_eq_true rfl) (Nat.le_of_ble_eq_true rfl) (Nat.le_of_ble_eq_true rfl) dX5_next_108 (fun H locs hW => ?_)
      refine lv_goto (tgt := 140) C.1 C.2.1 dX5_next_111 rfl ?_
      cases hf
      exact m_vret C hW dX5_next_140
  · have hf := (if_neg c1).symm.trans hf
    refine lv_aload_n C.1 C.2.1 dX5_next_84 rfl (lv_at hl 0 rfl) ?_
    refine lv_iconst C.1 C.2.1 dX5_next_85 ic_0 ?_
    refine m_puti C hW hx0 fpX5_90 dX5_next_86 (fun H locs hW => ?_)
    refine lv_goto (tgt := 140) C.1 C.2.1 dX5_next_89 rfl ?_
    cases hf
    exact m_vret C hW dX5_next_140

set_option maxRecDepth 100000 in
theorem kX5_next_47 {p : Program} {l : Launch} {e : Env} {s : State} {m : MethodId} {av : Array Value} {below : List Frame} {meth : Method} {c : Code} {A : Nat → Prop} {G : Gv} {L : List Nat} {q : MS} {K8 : Nat → MS → Option MS} (hK8 : ∀ (x0 : Nat) (S : MS) (H : Heap) (locs : List Loc) (ls : Array Slot), (x0 < shX.1 ∧ shX.2.1 x0 = 5) → mW G shX L S A s H locs → lv_has ls 1 [(0, .ref (ad L x0))] → K8 x0 S = some q → W p l e (rmd (3)) s m av below meth c H locs 0 0 (MQ below (mQ G shX L q none A) av s 0 0 A) (F0 m 8 ls [])) (C : mC p s m av meth c cX5_next RX5 1 none) : ∀ (x0 : Nat) (S : MS) (H : Heap) (locs : List Loc) (ls : Array Slot), (x0 < shX.1 ∧ shX.2.1 x0 = 5) → mW G shX L S A s H locs → lv_has ls 1 [(0, .ref (ad L x0))] → fX5_next_47 K8 x0 S = some q → W p l e (rmd (3)) s m av below meth c H locs 0 0 (MQ below (mQ G shX L q none A) av s 0 0 A) (F0 m 47 ls []) := by
  intro x0 S H locs ls hx0 hW hl hf
  unfold fX5_next_47 at hf
  refine lv_aload_n C.1 C.2.1 dX5_next_47 rfl (lv_at hl 0 rfl) ?_
  refine lv_dup C.1 C.2.1 dX5_next_48 rfl ?_
  refine m_geti C hW hx0 flX5_59 dX5_next_49 ?_
  refine lv_iconst C.1 C.2.1 dX5_next_52 ic_1 ?_
  refine lv_iadd C.1 C.2.1 dX5_next_53 ?_
  refine m_puti C hW hx0 fpX5_59 dX5_next_54 (fun H locs hW => ?_)
  refine lv_goto (tgt := 8) C.1 C.2.1 dX5_next_57 rfl ?_
  exact hK8 x0 _ _ _ _ hx0 hW (lv_sub hl [0] rfl) hf

set_option maxRecDepth 100000 in
theorem kX5_next_8 {p : Program} {l : Launch} {e : Env} {s : State} {m : MethodId} {av : Array Value} {below : List Frame} {meth : Method} {c : Code} {A : Nat → Prop} {G : Gv} {L : List Nat} {q : MS}  (C : mC p s m av meth c cX5_next RX5 1 none) : ∀ (n : Nat) (x0 : Nat) (S : MS) (H : Heap) (locs : List Loc) (ls : Array Slot), (x0 < shX.1 ∧ shX.2.1 x0 = 5) → mW G shX L S A s H locs → lv_has ls 1 [(0, .ref (ad L x0))] → fX5_next_8  n x0 S = some q → W p l e (rmd (3)) s m av below meth c H locs 0 0 (MQ below (mQ G shX L q none A) av s 0 0 A) (F0 m 8 ls []) := by
  intro n
  induction n with
  | zero =>
    intro x0 S H locs ls hx0 hW hl hf
    rw [fX5_next_8] at hf
    cases hf
  | succ n ih =>
    intro x0 S H locs ls hx0 hW hl hf
    rw [fX5_next_8] at hf
    refine lv_aload_n C.1 C.2.1 dX5_next_8 rfl (lv_at hl 0 rfl) ?_
    refine m_geti C hW hx0 flX5_59 dX5_next_9 ?_
    refine lv_aload_n C.1 C.2.1 dX5_next_12 rfl (lv_at hl 0 rfl) ?_
    refine m_geti C hW hx0 flX5_56 dX5_next_13 ?_
    refine lv_icmp_ge (tgt := 60) C.1 C.2.1 dX5_next_16 rfl (fun c18 => ?_) (fun c18 => ?_)
    · have hf := (if_pos c18).symm.trans hf
      exact kX5_next_60  C x0 _ _ _ _ hx0 hW (lv_sub hl [0] rfl) hf
    · have hf := (if_neg c18).symm.trans hf
      refine lv_aload_n C.1 C.2.1 dX5_next_19 rfl (lv_at hl 0 rfl) ?_
      refine m_getr C hW hx0 flX5_20 (by decide) dX5_next_20 (fun hk19 => ?_)
      refine lv_aload_n C.1 C.2.1 dX5_next_23 rfl (lv_at hl 0 rfl) ?_
      refine m_geti C hW hx0 flX5_59 dX5_next_24 ?_
      obtain ⟨hb20, hf⟩ := gd hf
      refine m_bald C hW hk19 hb20 dX5_next_27 ?_
      refine lv_bipush C.1 C.2.1 dX5_next_28 bp_32 ?_
      refine lv_icmp_eq (tgt := 47) C.1 C.2.1 dX5_next_30 rfl (fun c21 => ?_) (fun c21 => ?_)
      · have hf := (if_pos c21).symm.trans hf
        exact kX5_next_47 ih C x0 _ _ _ _ hx0 hW (lv_sub hl [0] rfl) hf
      · have hf := (if_neg c21).symm.trans hf
        refine lv_aload_n C.1 C.2.1 dX5_next_33 rfl (lv_at hl 0 rfl) ?_
        refine m_getr C hW hx0 flX5_20 (by decide) dX5_next_34 (fun hk22 => ?_)
        refine lv_aload_n C.1 C.2.1 dX5_next_37 rfl (lv_at hl 0 rfl) ?_
        refine m_geti C hW hx0 flX5_59 dX5_next_38 ?_
        obtain ⟨hb23, hf⟩ := gd hf
        refine m_bald C hW hk22 hb23 dX5_next_41 ?_
        refine lv_bipush C.1 C.2.1 dX5_next_42 bp_10 ?_
        refine lv_icmp_ne (tgt := 60) C.1 C.2.1 dX5_next_44 rfl (fun c24 => ?_) (fun c24 => ?_)
        · have hf := (if_neg c24).symm.trans hf
          exact kX5_next_60  C x0 _ _ _ _ hx0 hW (lv_sub hl [0] rfl) hf
        · have hf := (if_pos c24).symm.trans hf
          exact kX5_next_47 ih C x0 _ _ _ _ hx0 hW (lv_sub hl [0] rfl) hf

set_option maxRecDepth 100000 in
theorem cX5_next_ok {l : Launch} {G : Gv} {L : List Nat} {S : MS} {a0 : Nat} {q : MS} (ha0 : a0 < shX.1 ∧ shX.2.1 a0 = 5) (hf : fX5_next a0 S = some q) : Mt l yX5_next cX5_next 1 none (3) G shX L S [.ref (ad L a0)] none q := by
  refine m_enter (lv := [(0, .ref (ad L a0))]) (plainFor_of_name (by decide)) (Nat.le_of_ble_eq_true rfl) rfl ?_
  intro p e s m below meth c A ls C hW hl
  unfold fX5_next at hf
  refine lv_aload_n C.1 C.2.1 dX5_next_0 rfl (lv_at hl 0 rfl) ?_
  refine lv_aload_n C.1 C.2.1 dX5_next_1 rfl (lv_at hl 0 rfl) ?_
  refine m_geti C hW ha0 flX5_62 dX5_next_2 ?_
  refine m_puti C hW ha0 fpX5_163 dX5_next_5 (fun H locs hW => ?_)
  exact kX5_next_8  C 1000 a0 _ _ _ _ ha0 hW (lv_sub hl [0] rfl) hf

def fX6_strike (a0 : Nat) (a1 : Int32) (S : MS) : Option (Int32 × MS) := (fX7_has  (gR S a0 0) a1 S).bind fun q2 => (if q2 = (0 : Int32) then some ((-1 : Int32), S) else (fX6_add  a0 (0 : Int32) (2 : Int32) a1 (0 : Int32) (1 : Int32) S).bind fun q5 => some (q5.1, q5.2))
set_option maxRecDepth 100000 in
theorem cX6_strike_ok {l : Launch} {G : Gv} {L : List Nat} {S : MS} {a0 : Nat} {a1 : Int32} {q : (Int32 × MS)} (ha0 : a0 < shX.1 ∧ shX.2.1 a0 = 6) (hf : fX6_strike a0 a1 S = some q) : Mt l yX6_strike cX6_strike 2 (some .int) (3) G shX L S [.ref (ad L a0), .int a1] (some (.int q.1)) q.2 := by
  refine m_enter (lv := [(0, .ref (ad L a0)), (1, .int a1)]) (plainFor_of_name (by decide)) (Nat.le_of_ble_eq_true rfl) rfl ?_
  intro p e s m below meth c A ls C hW hl
  unfold fX6_strike at hf
  refine lv_aload_n C.1 C.2.1 dX6_strike_0 rfl (lv_at hl 0 rfl) ?_
  refine m_getr C hW ha0 flX6_14 (by decide) dX6_strike_1 (fun hk1 => ?_)
  refine lv_iload_n C.1 C.2.1 dX6_strike_4 rfl (lv_at hl 1 rfl) ?_
  obtain ⟨q2, h3, hf⟩ := bd hf
  refine m_callV (As := [.int a1]) (rest := []) C hW hk1 (cX7_has_ok  hk1 h3) mlX6_45 (by decide) rfl hl.1 rfl (Nat.le_of_ble_eq_true rfl) (Nat.le_of_ble_eq_true rfl) (Nat.le_of_ble_eq_true rfl) dX6_strike_5 (fun H locs hW => ?_)
  refine lv_if_eq (tgt := 23) C.1 C.2.1 dX6_strike_8 rfl (fun c4 => ?_) (fun c4 => ?_)
  · have hf := (if_pos c4).symm.trans hf
    refine lv_iconst C.1 C.2.1 dX6_strike_23 ic_m1 ?_
    cases hf
    exact m_iret C hW dX6_strike_24
  · have hf := (if_neg c4).symm.trans hf
    refine lv_aload_n C.1 C.2.1 dX6_strike_11 rfl (lv_at hl 0 rfl) ?_
    refine lv_iconst C.1 C.2.1 dX6_strike_12 ic_0 ?_
    refine lv_iconst C.1 C.2.1 dX6_strike_13 ic_2 ?_
    refine lv_iload_n C.1 C.2.1 dX6_strike_14 rfl (lv_at hl 1 rfl) ?_
    refine lv_iconst C.1 C.2.1 dX6_strike_15 ic_0 ?_
    refine lv_iconst C.1 C.2.1 dX6_strike_16 ic_1 ?_
    obtain ⟨q5, h6, hf⟩ := bd hf
    refine m_callV (As := [.int (0 : Int32), .int (2 : Int32), .int a1, .int (0 : Int32), .int (1 : Int32)]) (rest := []) C hW ha0 (cX6_add_ok  ha0 h6) mlX6_49 (by decide) rfl hl.1 rfl (Nat.le_of_ble_eq_true rfl) (Nat.le_of_ble_eq_true rfl) (Nat.le_of_ble_eq_true rfl) dX6_strike_17 (fun H locs hW => ?_)
    refine lv_goto (tgt := 24) C.1 C.2.1 dX6_strike_20 rfl ?_
    cases hf
    exact m_iret C hW dX6_strike_24

def fX6_settle_85 (K33 : Nat → Int32 → MS → Option MS) (x0 : Nat) (x1 : Int32) (S : MS) : Option MS := K33 x0 (x1 + (-1 : Int32)) S
def fX6_settle_33  : Nat → Nat → Int32 → MS → Option MS
  | 0, _, _, _ => none
  | n + 1, x0, x1, S => (if x1 < (0 : Int32) then some S else (fX7_get  (gR S x0 0) x1 (2 : Int32) S).bind fun q3 => (fX7_get  (gR S x0 0) x1 (1 : Int32) S).bind fun q6 => (if q6 = (2 : Int32) then (if bnd x1 (lnX (gR S x0 1)) = true then (if gI S (gR S x0 1) x1.toNatClampNeg = (0 : Int32) then (if q3 < (0 : Int32) then fX6_settle_85 (fX6_settle_33  n) x0 x1 S else (if x1 ≤ q3 then fX6_settle_85 (fX6_settle_33  n) x0 x1 S else (if bnd q3 (lnX (gR S x0 1)) = true then fX6_settle_85 (fX6_settle_33  n) x0 x1 (pI S (gR S x0 1) q3.toNatClampNeg (vp_nar .boolean (1 : Int32))) else none))) else fX6_settle_85 (fX6_settle_33  n) x0 x1 S) else none) else fX6_settle_85 (fX6_settle_33  n) x0 x1 S))
def fX6_settle_2  : Nat → Nat → Int32 → MS → Option MS
  | 0, _, _, _ => none
  | n + 1, x0, x1, S => (if (24 : Int32) ≤ x1 then (fX6_reach  x0 S).bind fun q17 => fX6_settle_33  1000 x0 ((if (24 : Int32) < q17 then (24 : Int32) else q17) - (1 : Int32)) S else (if bnd x1 (lnX (gR S x0 1)) = true then (fX6_settle_2  n) x0 (x1 + (1 : Int32)) (pI S (gR S x0 1) x1.toNatClampNeg (vp_nar .boolean (0 : Int32))) else none))
def fX6_settle (a0 : Nat) (S : MS) : Option MS := fX6_settle_2  1000 a0 (0 : Int32) S
set_option maxRecDepth 100000 in
theorem kX6_settle_85 {p : Program} {l : Launch} {e : Env} {s : State} {m : MethodId} {av : Array Value} {below : List Frame} {meth : Method} {c : Code} {A : Nat → Prop} {G : Gv} {L : List Nat} {q : MS} {K33 : Nat → Int32 → MS → Option MS} (hK33 : ∀ (x0 : Nat) (x1 : Int32) (S : MS) (H : Heap) (locs : List Loc) (ls : Array Slot), (x0 < shX.1 ∧ shX.2.1 x0 = 6) → mW G shX L S A s H locs → lv_has ls 3 [(0, .ref (ad L x0)), (1, .int x1)] → K33 x0 x1 S = some q → W p l e (rmd (3)) s m av below meth c H locs 0 0 (MQ below (mQ G shX L q none A) av s 0 0 A) (F0 m 33 ls [])) (C : mC p s m av meth c cX6_settle RX6 3 none) : ∀ (x0 : Nat) (x1 : Int32) (S : MS) (H : Heap) (locs : List Loc) (ls : Array Slot), (x0 < shX.1 ∧ shX.2.1 x0 = 6) → mW G shX L S A s H locs → lv_has ls 3 [(0, .ref (ad L x0)), (1, .int x1)] → fX6_settle_85 K33 x0 x1 S = some q → W p l e (rmd (3)) s m av below meth c H locs 0 0 (MQ below (mQ G shX L q none A) av s 0 0 A) (F0 m 85 ls []) := by
  intro x0 x1 S H locs ls hx0 hW hl hf
  unfold fX6_settle_85 at hf
  refine lv_iinc (v := x1 + (-1 : Int32)) (lv' := [(1, .int (x1 + (-1 : Int32))), (0, .ref (ad L x0))]) C.1 C.2.1 dX6_settle_85 hl (k := 1) rfl (congrArg (fun z => x1 + z) ic_m1) (by decide) rfl (fun ls hl => ?_)
  refine lv_goto (tgt := 33) C.1 C.2.1 dX6_settle_88 rfl ?_
  exact hK33 x0 (x1 + (-1 : Int32)) _ _ _ _ hx0 hW (lv_sub hl [1, 0] rfl) hf

set_option maxRecDepth 100000 in
theorem kX6_settle_33 {p : Program} {l : Launch} {e : Env} {s : State} {m : MethodId} {av : Array Value} {below : List Frame} {meth : Method} {c : Code} {A : Nat → Prop} {G : Gv} {L : List Nat} {q : MS}  (C : mC p s m av meth c cX6_settle RX6 3 none) : ∀ (n : Nat) (x0 : Nat) (x1 : Int32) (S : MS) (H : Heap) (locs : List Loc) (ls : Array Slot), (x0 < shX.1 ∧ shX.2.1 x0 = 6) → mW G shX L S A s H locs → lv_has ls 3 [(0, .ref (ad L x0)), (1, .int x1)] → fX6_settle_33  n x0 x1 S = some q → W p l e (rmd (3)) s m av below meth c H locs 0 0 (MQ below (mQ G shX L q none A) av s 0 0 A) (F0 m 33 ls []) := by
  intro n
  induction n with
  | zero =>
    intro x0 x1 S H locs ls hx0 hW hl hf
    rw [fX6_settle_33] at hf
    cases hf
  | succ n ih =>
    intro x0 x1 S H locs ls hx0 hW hl hf
    rw [fX6_settle_33] at hf
    refine lv_iload_n C.1 C.2.1 dX6_settle_33 rfl (lv_at hl 1 rfl) ?_
    refine lv_if_lt (tgt := 91) C.1 C.2.1 dX6_settle_34 rfl (fun c1 => ?_) (fun c1 => ?_)
    · have hf := (if_pos c1).symm.trans hf
      cases hf
      exact m_vret C hW dX6_settle_91
    · have hf := (if_neg c1).symm.trans hf
      refine lv_aload_n C.1 C.2.1 dX6_settle_37 rfl (lv_at hl 0 rfl) ?_
      refine m_getr C hW hx0 flX6_14 (by decide) dX6_settle_38 (fun hk2 => ?_)
      refine lv_iload_n C.1 C.2.1 dX6_settle_41 rfl (lv_at hl 1 rfl) ?_
      refine lv_iconst C.1 C.2.1 dX6_settle_42 ic_2 ?_
      obtain ⟨q3, h4, hf⟩ := bd hf
      refine m_callV (As := [.int x1, .int (2 : Int32)]) (rest := []) C hW hk2 (cX7_get_ok  hk2 h4) mlX6_62 (by decide) rfl hl.1 rfl (Nat.le_of_ble_eq_true rfl) (Nat.le_of_ble_eq_true rfl) (Nat.le_of_ble_eq_true rfl) dX6_settle_43 (fun H locs hW => ?_)
      refine lv_istore_n (lv' := [(2, .int q3), (0, .ref (ad L x0)), (1, .int x1)]) C.1 C.2.1 dX6_settle_46 rfl hl (by decide) rfl (fun ls hl => ?_)
      refine lv_aload_n C.1 C.2.1 dX6_settle_47 rfl (lv_at hl 1 rfl) ?_
      refine m_getr C hW hx0 flX6_14 (by decide) dX6_settle_48 (fun hk5 => ?_)
      refine lv_iload_n C.1 C.2.1 dX6_settle_51 rfl (lv_at hl 2 rfl) ?_
      refine lv_iconst C.1 C.2.1 dX6_settle_52 ic_1 ?_
      obtain ⟨q6, h7, hf⟩ := bd hf
      refine m_callV (As := [.int x1, .int (1 : Int32)]) (rest := []) C hW hk5 (cX7_get_ok  hk5 h7) mlX6_62 (by decide) rfl hl.1 rfl (Nat.le_of_ble_eq_true rfl) (Nat.le_of_ble_eq_true rfl) (Nat.le_of_ble_eq_true rfl) dX6_settle_53 (fun H locs hW => ?_)
      refine lv_iconst C.1 C.2.1 dX6_settle_56 ic_2 ?_
      refine lv_icmp_ne (tgt := 85) C.1 C.2.1 dX6_settle_57 rfl (fun c8 => ?_) (fun c8 => ?_)
      · have hf := (if_neg c8).symm.trans hf
        exact kX6_settle_85 ih C x0 x1 _ _ _ _ hx0 hW (lv_sub hl [1, 2] rfl) hf
      · have hf := (if_pos c8).symm.trans hf
        refine lv_aload_n C.1 C.2.1 dX6_settle_60 rfl (lv_at hl 1 rfl) ?_
        refine m_getr C hW hx0 flX6_20 (by decide) dX6_settle_61 (fun hk9 => ?_)
        refine lv_iload_n C.1 C.2.1 dX6_settle_64 rfl (lv_at hl 2 rfl) ?_
        obtain ⟨hb10, hf⟩ := gd hf
        refine m_zald C hW hk9 hb10 dX6_settle_65 ?_
        refine lv_if_ne (tgt := 85) C.1 C.2.1 dX6_settle_66 rfl (fun c11 => ?_) (fun c11 => ?_)
        · have hf := (if_neg c11).symm.trans hf
          exact kX6_settle_85 ih C x0 x1 _ _ _ _ hx0 hW (lv_sub hl [1, 2] rfl) hf
        · have hf := (if_pos c11).symm.trans hf
          refine lv_iload_n C.1 C.2.1 dX6_settle_69 rfl (lv_at hl 0 rfl) ?_
          refine lv_if_lt (tgt := 85) C.1 C.2.1 dX6_settle_70 rfl (fun c12 => ?_) (fun c12 => ?_)
          · have hf := (if_pos c12).symm.trans hf
            exact kX6_settle_85 ih C x0 x1 _ _ _ _ hx0 hW (lv_sub hl [1, 2] rfl) hf
          · have hf := (if_neg c12).symm.trans hf
            refine lv_iload_n C.1 C.2.1 dX6_settle_73 rfl (lv_at hl 0 rfl) ?_
            refine lv_iload_n C.1 C.2.1 dX6_settle_74 rfl (lv_at hl 2 rfl) ?_
            refine lv_icmp_ge (tgt := 85) C.1 C.2.1 dX6_settle_75 rfl (fun c13 => ?_) (fun c13 => ?_)
            · have hf := (if_pos c13).symm.trans hf
              exact kX6_settle_85 ih C x0 x1 _ _ _ _ hx0 hW (lv_sub hl [1, 2] rfl) hf
            · have hf := (if_neg c13).symm.trans hf
              refine lv_aload_n C.1 C.2.1 dX6_settle_78 rfl (lv_at hl 1 rfl) ?_
              refine m_getr C hW hx0 flX6_20 (by decide) dX6_settle_79 (fun hk14 => ?_)
              refine lv_iload_n C.1 C.2.1 dX6_settle_82 rfl (lv_at hl 0 rfl) ?_
              refine lv_iconst C.1 C.2.1 dX6_settle_83 ic_1 ?_
              obtain ⟨hb15, hf⟩ := gd hf
              refine m_zast C hW hk14 hb15 dX6_settle_84 (fun H locs hW => ?_)
              exact kX6_settle_85 ih C x0 x1 _ _ _ _ hx0 hW (lv_sub hl [1, 2] rfl) hf

set_option maxRecDepth 100000 in
theorem kX6_settle_2 {p : Program} {l : Launch} {e : Env} {s : State} {m : MethodId} {av : Array Value} {below : List Frame} {meth : Method} {c : Code} {A : Nat → Prop} {G : Gv} {L : List Nat} {q : MS}  (C : mC p s m av meth c cX6_settle RX6 3 none) : ∀ (n : Nat) (x0 : Nat) (x1 : Int32) (S : MS) (H : Heap) (locs : List Loc) (ls : Array Slot), (x0 < shX.1 ∧ shX.2.1 x0 = 6) → mW G shX L S A s H locs → lv_has ls 3 [(0, .ref (ad L x0)), (1, .int x1)] → fX6_settle_2  n x0 x1 S = some q → W p l e (rmd (3)) s m av below meth c H locs 0 0 (MQ below (mQ G shX L q none A) av s 0 0 A) (F0 m 2 ls []) := by
  intro n
  induction n with
  | zero =>
    intro x0 x1 S H locs ls hx0 hW hl hf
    rw [fX6_settle_2] at hf
    cases hf
  | succ n ih =>
    intro x0 x1 S H locs ls hx0 hW hl hf
    rw [fX6_settle_2] at hf
    refine lv_iload_n C.1 C.2.1 dX6_settle_2 rfl (lv_at hl 1 rfl) ?_
    refine lv_bipush C.1 C.2.1 dX6_settle_3 bp_24 ?_
    refine lv_icmp_ge (tgt := 21) C.1 C.2.1 dX6_settle_5 rfl (fun c16 => ?_) (fun c16 => ?_)
    · have hf := (if_pos c16).symm.trans hf
      refine lv_aload_n C.1 C.2.1 dX6_settle_21 rfl (lv_at hl 0 rfl) ?_
      obtain ⟨q17, h18, hf⟩ := bd hf
      refine m_callV (As := []) (rest := []) C hW hx0 (cX6_reach_ok  hx0 h18) mlX6_53 (by decide) rfl hl.1 rfl (Nat.le_of_ble_eq_true rfl) (Nat.le_of_ble_eq_true rfl) (Nat.le_of_ble_eq_true rfl) dX6_settle_22 (fun H locs hW => ?_)
      refine lv_bipush C.1 C.2.1 dX6_settle_25 bp_24 ?_
      refine va_mmin C.1 C.2.1 (C.2.2.1.trans hl.1.symm) C.2.2.2.1 (C.2.2.2.2.1 _ kw_1217) (C.2.2.2.2.1 _ kw_696) (C.2.2.2.2.1 _ kw_135) (C.2.2.2.2.1 _ kw_697) (Nat.le_of_ble_eq_true rfl) (Nat.le_of_ble_eq_true rfl) (Nat.le_refl 0) (Nat.le_refl 0) dX6_settle_27 ?_
      refine lv_iconst C.1 C.2.1 dX6_settle_30 ic_1 ?_
      refine lv_isub C.1 C.2.1 dX6_settle_31 ?_
      refine lv_istore_n (lv' := [(1, .int ((if (24 : Int32) < q17 then (24 : Int32) else q17) - (1 : Int32))), (0, .ref (ad L x0))]) C.1 C.2.1 dX6_settle_32 rfl hl (by decide) rfl (fun ls hl => ?_)
      exact kX6_settle_33  C 1000 x0 ((if (24 : Int32) < q17 then (24 : Int32) else q17) - (1 : Int32)) _ _ _ _ hx0 hW (lv_sub hl [1, 0] rfl) hf
    · have hf := (if_neg c16).symm.trans hf
      refine lv_aload_n C.1 C.2.1 dX6_settle_8 rfl (lv_at hl 0 rfl) ?_
      refine m_getr C hW hx0 flX6_20 (by decide) dX6_settle_9 (fun hk19 => ?_)
      refine lv_iload_n C.1 C.2.1 dX6_settle_12 rfl (lv_at hl 1 rfl) ?_
      refine lv_iconst C.1 C.2.1 dX6_settle_13 ic_0 ?_
      obtain ⟨hb20, hf⟩ := gd hf
      refine m_zast C hW hk19 hb20 dX6_settle_14 (fun H locs hW => ?_)
      refine lv_iinc (v := x1 + (1 : Int32)) (lv' := [(1, .int (x1 + (1 : Int32))), (0, .ref (ad L x0))]) C.1 C.2.1 dX6_settle_15 hl (k := 1) rfl (congrArg (fun z => x1 + z) ic_1) (by decide) rfl (fun ls hl => ?_)
      refine lv_goto (tgt := 2) C.1 C.2.1 dX6_settle_18 rfl ?_
      exact ih x0 (x1 + (1 : Int32)) _ _ _ _ hx0 hW (lv_sub hl [1, 0] rfl) hf

set_option maxRecDepth 100000 in
theorem cX6_settle_ok {l : Launch} {G : Gv} {L : List Nat} {S : MS} {a0 : Nat} {q : MS} (ha0 : a0 < shX.1 ∧ shX.2.1 a0 = 6) (hf : fX6_settle a0 S = some q) : Mt l yX6_settle cX6_settle 3 none (3) G shX L S [.ref (ad L a0)] none q := by
  refine m_enter (lv := [(0, .ref (ad L a0))]) (plainFor_of_name (by decide)) (Nat.le_of_ble_eq_true rfl) rfl ?_
  intro p e s m below meth c A ls C hW hl
  unfold fX6_settle at hf
  refine lv_iconst C.1 C.2.1 dX6_settle_0 ic_0 ?_
  refine lv_istore_n (lv' := [(1, .int (0 : Int32)), (0, .ref (ad L a0))]) C.1 C.2.1 dX6_settle_1 rfl hl (by decide) rfl (fun ls hl => ?_)
  exact kX6_settle_2  C 1000 a0 (0 : Int32) _ _ _ _ ha0 hW (lv_sub hl [1, 0] rfl) hf

def fX6_lastHour_34 (K4 : Nat → Int32 → Int32 → MS → Option Int32) (x0 : Nat) (x1 : Int32) (x2 : Int32) (S : MS) : Option Int32 := K4 x0 x1 (x2 + (1 : Int32)) S
def fX6_lastHour_4  : Nat → Nat → Int32 → Int32 → MS → Option Int32
  | 0, _, _, _, _ => none
  | n + 1, x0, x1, x2, S => (fX6_reach  x0 S).bind fun q1 => (if q1 ≤ x2 then some x1 else (fX6_isKnown  x0 x2 S).bind fun q4 => (if q4 = (0 : Int32) then fX6_lastHour_34 (fX6_lastHour_4  n) x0 x1 x2 S else (fX7_get  (gR S x0 0) x2 (0 : Int32) S).bind fun q8 => fX6_lastHour_34 (fX6_lastHour_4  n) x0 (if x1 < q8 then q8 else x1) x2 S))
def fX6_lastHour (a0 : Nat) (S : MS) : Option Int32 := fX6_lastHour_4  1000 a0 (0 : Int32) (0 : Int32) S
set_option maxRecDepth 100000 in
theorem kX6_lastHour_34 {p : Program} {l : Launch} {e : Env} {s : State} {m : MethodId} {av : Array Value} {below : List Frame} {meth : Method} {c : Code} {A : Nat → Prop} {G : Gv} {L : List Nat} {S : MS} {q : Int32} {K4 : Nat → Int32 → Int32 → MS → Option Int32} (hK4 : ∀ (x0 : Nat) (x1 : Int32) (x2 : Int32) (H : Heap) (locs : List Loc) (ls : Array Slot), (x0 < shX.1 ∧ shX.2.1 x0 = 6) → mW G shX L S A s H locs → lv_has ls 3 [(0, .ref (ad L x0)), (1, .int x1), (2, .int x2)] → K4 x0 x1 x2 S = some q → W p l e (rmd (3)) s m av below meth c H locs 0 0 (MQ below (mQ G shX L S (some (.int q)) A) av s 0 0 A) (F0 m 4 ls [])) (C : mC p s m av meth c cX6_lastHour RX6 3 (some .int)) : ∀ (x0 : Nat) (x1 : Int32) (x2 : Int32) (H : Heap) (locs : List Loc) (ls : Array Slot), (x0 < shX.1 ∧ shX.2.1 x0 = 6) → mW G shX L S A s H locs → lv_has ls 3 [(0, .ref (ad L x0)), (1, .int x1), (2, .int x2)] → fX6_lastHour_34 K4 x0 x1 x2 S = some q → W p l e (rmd (3)) s m av below meth c H locs 0 0 (MQ below (mQ G shX L S (some (.int q)) A) av s 0 0 A) (F0 m 34 ls []) := by
  intro x0 x1 x2 H locs ls hx0 hW hl hf
  unfold fX6_lastHour_34 at hf
  refine lv_iinc (v := x2 + (1 : Int32)) (lv' := [(2, .int (x2 + (1 : Int32))), (0, .ref (ad L x0)), (1, .int x1)]) C.1 C.2.1 dX6_lastHour_34 hl (k := 2) rfl (congrArg (fun z => x2 + z) ic_1) (by decide) rfl (fun ls hl => ?_)
  refine lv_goto (tgt := 4) C.1 C.2.1 dX6_lastHour_37 rfl ?_
  exact hK4 x0 x1 (x2 + (1 : Int32)) _ _ _ hx0 hW (lv_sub hl [1, 2, 0] rfl) hf

set_option maxRecDepth 100000 in
theorem kX6_lastHour_4 {p : Program} {l : Launch} {e : Env} {s : State} {m : MethodId} {av : Array Value} {below : List Frame} {meth : Method} {c : Code} {A : Nat → Prop} {G : Gv} {L : List Nat} {S : MS} {q : Int32}  (C : mC p s m av meth c cX6_lastHour RX6 3 (some .int)) : ∀ (n : Nat) (x0 : Nat) (x1 : Int32) (x2 : Int32) (H : Heap) (locs : List Loc) (ls : Array Slot), (x0 < shX.1 ∧ shX.2.1 x0 = 6) → mW G shX L S A s H locs → lv_has ls 3 [(0, .ref (ad L x0)), (1, .int x1), (2, .int x2)] → fX6_lastHour_4  n x0 x1 x2 S = some q → W p l e (rmd (3)) s m av below meth c H locs 0 0 (MQ below (mQ G shX L S (some (.int q)) A) av s 0 0 A) (F0 m 4 ls []) := by
  intro n
  induction n with
  | zero =>
    intro x0 x1 x2 H locs ls hx0 hW hl hf
    rw [fX6_lastHour_4] at hf
    cases hf
  | succ n ih =>
    intro x0 x1 x2 H locs ls hx0 hW hl hf
    rw [fX6_lastHour_4] at hf
    refine lv_iload_n C.1 C.2.1 dX6_lastHour_4 rfl (lv_at hl 2 rfl) ?_
    refine lv_aload_n C.1 C.2.1 dX6_lastHour_5 rfl (lv_at hl 0 rfl) ?_
    obtain ⟨q1, h2, hf⟩ := bd hf
    refine m_callV (As := []) (rest := [.int x2]) C hW hx0 (cX6_reach_ok  hx0 h2) mlX6_53 (by decide) rfl hl.1 rfl (Nat.le_of_ble_eq_true rfl) (Nat.le_of_ble_eq_true rfl) (Nat.le_of_ble_eq_true rfl) dX6_lastHour_6 (fun H locs hW => ?_)
    refine lv_icmp_ge (tgt := 40) C.1 C.2.1 dX6_lastHour_9 rfl (fun c3 => ?_) (fun c3 => ?_)
    · have hf := (if_pos c3).symm.trans hf
      refine lv_iload_n C.1 C.2.1 dX6_lastHour_40 rfl (lv_at hl 1 rfl) ?_
      cases hf
      exact m_iret C hW dX6_lastHour_41
    · have hf := (if_neg c3).symm.trans hf
      refine lv_aload_n C.1 C.2.1 dX6_lastHour_12 rfl (lv_at hl 0 rfl) ?_
      refine lv_iload_n C.1 C.2.1 dX6_lastHour_13 rfl (lv_at hl 2 rfl) ?_
      obtain ⟨q4, h5, hf⟩ := bd hf
      refine m_callV (As := [.int x2]) (rest := []) C hW hx0 (cX6_isKnown_ok  hx0 h5) mlX6_65 (by decide) rfl hl.1 rfl (Nat.le_of_ble_eq_true rfl) (Nat.le_of_ble_eq_true rfl) (Nat.le_of_ble_eq_true rfl) dX6_lastHour_14 (fun H locs hW => ?_)
      refine lv_if_eq (tgt := 34) C.1 C.2.1 dX6_lastHour_17 rfl (fun c6 => ?_) (fun c6 => ?_)
      · have hf := (if_pos c6).symm.trans hf
        exact kX6_lastHour_34 ih C x0 x1 x2 _ _ _ hx0 hW (lv_sub hl [0, 1, 2] rfl) hf
      · have hf := (if_neg c6).symm.trans hf
        refine lv_iload_n C.1 C.2.1 dX6_lastHour_20 rfl (lv_at hl 1 rfl) ?_
        refine lv_aload_n C.1 C.2.1 dX6_lastHour_21 rfl (lv_at hl 0 rfl) ?_
        refine m_getr C hW hx0 flX6_14 (by decide) dX6_lastHour_22 (fun hk7 => ?_)
        refine lv_iload_n C.1 C.2.1 dX6_lastHour_25 rfl (lv_at hl 2 rfl) ?_
        refine lv_iconst C.1 C.2.1 dX6_lastHour_26 ic_0 ?_
        obtain ⟨q8, h9, hf⟩ := bd hf
        refine m_callV (As := [.int x2, .int (0 : Int32)]) (rest := [.int x1]) C hW hk7 (cX7_get_ok  hk7 h9) mlX6_62 (by decide) rfl hl.1 rfl (Nat.le_of_ble_eq_true rfl) (Nat.le_of_ble_eq_true rfl) (Nat.le_of_ble_eq_true rfl) dX6_lastHour_27 (fun H locs hW => ?_)
        refine va_mmax C.1 C.2.1 (C.2.2.1.trans hl.1.symm) C.2.2.2.1 (C.2.2.2.2.1 _ kw_1231) (C.2.2.2.2.1 _ kw_953) (C.2.2.2.2.1 _ kw_135) (C.2.2.2.2.1 _ kw_954) (Nat.le_of_ble_eq_true rfl) (Nat.le_of_ble_eq_true rfl) (Nat.le_refl 0) (Nat.le_refl 0) dX6_lastHour_30 ?_
        refine lv_istore_n (lv' := [(1, .int (if x1 < q8 then q8 else x1)), (0, .ref (ad L x0)), (2, .int x2)]) C.1 C.2.1 dX6_lastHour_33 rfl hl (by decide) rfl (fun ls hl => ?_)
        exact kX6_lastHour_34 ih C x0 (if x1 < q8 then q8 else x1) x2 _ _ _ hx0 hW (lv_sub hl [1, 0, 2] rfl) hf

set_option maxRecDepth 100000 in
theorem cX6_lastHour_ok {l : Launch} {G : Gv} {L : List Nat} {S : MS} {a0 : Nat} {q : Int32} (ha0 : a0 < shX.1 ∧ shX.2.1 a0 = 6) (hf : fX6_lastHour a0 S = some q) : Mt l yX6_lastHour cX6_lastHour 3 (some .int) (3) G shX L S [.ref (ad L a0)] (some (.int q)) S := by
  refine m_enter (lv := [(0, .ref (ad L a0))]) (plainFor_of_name (by decide)) (Nat.le_of_ble_eq_true rfl) rfl ?_
  intro p e s m below meth c A ls C hW hl
  unfold fX6_lastHour at hf
  refine lv_iconst C.1 C.2.1 dX6_lastHour_0 ic_0 ?_
  refine lv_istore_n (lv' := [(1, .int (0 : Int32)), (0, .ref (ad L a0))]) C.1 C.2.1 dX6_lastHour_1 rfl hl (by decide) rfl (fun ls hl => ?_)
  refine lv_iconst C.1 C.2.1 dX6_lastHour_2 ic_0 ?_
  refine lv_istore_n (lv' := [(2, .int (0 : Int32)), (1, .int (0 : Int32)), (0, .ref (ad L a0))]) C.1 C.2.1 dX6_lastHour_3 rfl hl (by decide) rfl (fun ls hl => ?_)
  exact kX6_lastHour_4  C 1000 a0 (0 : Int32) (0 : Int32) _ _ _ ha0 hW (lv_sub hl [2, 1, 0] rfl) hf

def fX6_agrees_146 (K2 : Nat → Int32 → Nat → Int32 → MS → Option Int32) (x0 : Nat) (x1 : Int32) (x2 : Nat) (x3 : Int32) (S : MS) : Option Int32 := K2 x0 x1 x2 (x3 + (1 : Int32)) S
def fX6_agrees_141 (K2 : Nat → Int32 → Nat → Int32 → MS → Option Int32) (x0 : Nat) (x1 : Int32) (x2 : Nat) (x3 : Int32) (y0 : Int32) (y1 : Int32) (S : MS) : Option Int32 := (if y0 = y1 then fX6_agrees_146 K2 x0 x1 x2 x3 S else some (0 : Int32))
def fX6_agrees_119 (K2 : Nat → Int32 → Nat → Int32 → MS → Option Int32) (x0 : Nat) (x1 : Int32) (x2 : Nat) (x3 : Int32) (y0 : Int32) (S : MS) : Option Int32 := (fX7_get  (gR S x0 0) x3 (4 : Int32) S).bind fun q3 => (if q3 = (1 : Int32) then fX6_agrees_141 K2 x0 x1 x2 x3 y0 (1 : Int32) S else fX6_agrees_141 K2 x0 x1 x2 x3 y0 (0 : Int32) S)
def fX6_agrees_118 (K2 : Nat → Int32 → Nat → Int32 → MS → Option Int32) (x0 : Nat) (x1 : Int32) (x2 : Nat) (x3 : Int32) (S : MS) : Option Int32 := fX6_agrees_119 K2 x0 x1 x2 x3 (0 : Int32) S
def fX6_agrees_84 (K2 : Nat → Int32 → Nat → Int32 → MS → Option Int32) (x0 : Nat) (x1 : Int32) (x2 : Nat) (x3 : Int32) (x5 : Int32) (y0 : Int32) (S : MS) : Option Int32 := (fX7_get  (gR S x0 0) x3 (2 : Int32) S).bind fun q7 => (if x5 = q7 then (fX7_get  (gR S x0 0) x3 (3 : Int32) S).bind fun q11 => (if y0 = q11 then fX6_agrees_119 K2 x0 x1 x2 x3 (1 : Int32) S else fX6_agrees_118 K2 x0 x1 x2 x3 S) else fX6_agrees_118 K2 x0 x1 x2 x3 S)
def fX6_agrees_66 (K2 : Nat → Int32 → Nat → Int32 → MS → Option Int32) (x0 : Nat) (x1 : Int32) (x2 : Nat) (x3 : Int32) (x4 : Int32) (y0 : Int32) (S : MS) : Option Int32 := (if x4 = (0 : Int32) then fX6_agrees_84 K2 x0 x1 x2 x3 y0 (gI S x2 13) S else fX6_agrees_84 K2 x0 x1 x2 x3 y0 (gI S x2 5) S)
def fX6_agrees_48 (K2 : Nat → Int32 → Nat → Int32 → MS → Option Int32) (x0 : Nat) (x1 : Int32) (x2 : Nat) (x3 : Int32) (y0 : Int32) (S : MS) : Option Int32 := (if y0 = (0 : Int32) then fX6_agrees_66 K2 x0 x1 x2 x3 y0 (gI S x2 12) S else fX6_agrees_66 K2 x0 x1 x2 x3 y0 (gI S x2 4) S)
def fX6_agrees_2  : Nat → Nat → Int32 → Nat → Int32 → MS → Option Int32
  | 0, _, _, _, _, _ => none
  | n + 1, x0, x1, x2, x3, S => (fX6_reach  x0 S).bind fun q16 => (if q16 ≤ x3 then some (1 : Int32) else (fX6_isKnown  x0 x3 S).bind fun q19 => (if q19 = (0 : Int32) then fX6_agrees_146 (fX6_agrees_2  n) x0 x1 x2 x3 S else (fX7_get  (gR S x0 0) x3 (0 : Int32) S).bind fun q23 => (if q23 = x1 then (fX7_get  (gR S x0 0) x3 (1 : Int32) S).bind fun q27 => (if q27 = (0 : Int32) then fX6_agrees_48 (fX6_agrees_2  n) x0 x1 x2 x3 (1 : Int32) S else fX6_agrees_48 (fX6_agrees_2  n) x0 x1 x2 x3 (0 : Int32) S) else fX6_agrees_146 (fX6_agrees_2  n) x0 x1 x2 x3 S)))
def fX6_agrees (a0 : Nat) (a1 : Int32) (a2 : Nat) (S : MS) : Option Int32 := fX6_agrees_2  1000 a0 a1 a2 (0 : Int32) S
set_option maxRecDepth 100000 in
theorem kX6_agrees_146 {p : Program} {l : Launch} {e : Env} {s : State} {m : MethodId} {av : Array Value} {below : List Frame} {meth : Method} {c : Code} {A : Nat → Prop} {G : Gv} {L : List Nat} {S : MS} {q : Int32} {K2 : Nat → Int32 → Nat → Int32 → MS → Option Int32} (hK2 : ∀ (x0 : Nat) (x1 : Int32) (x2 : Nat) (x3 : Int32) (H : Heap) (locs : List Loc) (ls : Array Slot), (x0 < shX.1 ∧ shX.2.1 x0 = 6) → (x2 < shX.1 ∧ shX.2.1 x2 = 9) → mW G shX L S A s H locs → lv_has ls 8 [(0, .ref (ad L x0)), (1, .int x1), (2, .ref (ad L x2)), (3, .int x3)] → K2 x0 x1 x2 x3 S = some q → W p l e (rmd (3)) s m av below meth c H locs 0 0 (MQ below (mQ G shX L S (some (.int q)) A) av s 0 0 A) (F0 m 2 ls [])) (C : mC p s m av meth c cX6_agrees RX6 8 (some .boolean)) : ∀ (x0 : Nat) (x1 : Int32) (x2 : Nat) (x3 : Int32) (H : Heap) (locs : List Loc) (ls : Array Slot), (x0 < shX.1 ∧ shX.2.1 x0 = 6) → (x2 < shX.1 ∧ shX.2.1 x2 = 9) → mW G shX L S A s H locs → lv_has ls 8 [(0, .ref (ad L x0)), (1, .int x1), (2, .ref (ad L x2)), (3, .int x3)] → fX6_agrees_146 K2 x0 x1 x2 x3 S = some q → W p l e (rmd (3)) s m av below meth c H locs 0 0 (MQ below (mQ G shX L S (some (.int q)) A) av s 0 0 A) (F0 m 146 ls []) := by
  intro x0 x1 x2 x3 H locs ls hx0 hx2 hW hl hf
  unfold fX6_agrees_146 at hf
  refine lv_iinc (v := x3 + (1 : Int32)) (lv' := [(3, .int (x3 + (1 : Int32))), (0, .ref (ad L x0)), (1, .int x1), (2, .ref (ad L x2))]) C.1 C.2.1 dX6_agrees_146 hl (k := 3) rfl (congrArg (fun z => x3 + z) ic_1) (by decide) rfl (fun ls hl => ?_)
  refine lv_goto (tgt := 2) C.1 C.2.1 dX6_agrees_149 rfl ?_
  exact hK2 x0 x1 x2 (x3 + (1 : Int32)) _ _ _ hx0 hx2 hW (lv_sub hl [1, 2, 3, 0] rfl) hf

set_option maxRecDepth 100000 in
theorem kX6_agrees_141 {p : Program} {l : Launch} {e : Env} {s : State} {m : MethodId} {av : Array Value} {below : List Frame} {meth : Method} {c : Code} {A : Nat → Prop} {G : Gv} {L : List Nat} {S : MS} {q : Int32} {K2 : Nat → Int32 → Nat → Int32 → MS → Option Int32} (hK2 : ∀ (x0 : Nat) (x1 : Int32) (x2 : Nat) (x3 : Int32) (H : Heap) (locs : List Loc) (ls : Array Slot), (x0 < shX.1 ∧ shX.2.1 x0 = 6) → (x2 < shX.1 ∧ shX.2.1 x2 = 9) → mW G shX L S A s H locs → lv_has ls 8 [(0, .ref (ad L x0)), (1, .int x1), (2, .ref (ad L x2)), (3, .int x3)] → K2 x0 x1 x2 x3 S = some q → W p l e (rmd (3)) s m av below meth c H locs 0 0 (MQ below (mQ G shX L S (some (.int q)) A) av s 0 0 A) (F0 m 2 ls [])) (C : mC p s m av meth c cX6_agrees RX6 8 (some .boolean)) : ∀ (x0 : Nat) (x1 : Int32) (x2 : Nat) (x3 : Int32) (y0 : Int32) (y1 : Int32) (H : Heap) (locs : List Loc) (ls : Array Slot), (x0 < shX.1 ∧ shX.2.1 x0 = 6) → (x2 < shX.1 ∧ shX.2.1 x2 = 9) → mW G shX L S A s H locs → lv_has ls 8 [(0, .ref (ad L x0)), (1, .int x1), (2, .ref (ad L x2)), (3, .int x3)] → fX6_agrees_141 K2 x0 x1 x2 x3 y0 y1 S = some q → W p l e (rmd (3)) s m av below meth c H locs 0 0 (MQ below (mQ G shX L S (some (.int q)) A) av s 0 0 A) (F0 m 141 ls [.int y1, .int y0]) := by
  intro x0 x1 x2 x3 y0 y1 H locs ls hx0 hx2 hW hl hf
  unfold fX6_agrees_141 at hf
  refine lv_icmp_eq (tgt := 146) C.1 C.2.1 dX6_agrees_141 rfl (fun c1 => ?_) (fun c1 => ?_)
  · have hf := (if_pos c1).symm.trans hf
    exact kX6_agrees_146 hK2 C x0 x1 x2 x3 _ _ _ hx0 hx2 hW (lv_sub hl [0, 1, 2, 3] rfl) hf
  · have hf := (if_neg c1).symm.trans hf
    refine lv_iconst C.1 C.2.1 dX6_agrees_144 ic_0 ?_
    cases hf
    exact m_zret C hW rfl dX6_agrees_145

set_option maxRecDepth 100000 in
theorem kX6_agrees_119 {p : Program} {l : Launch} {e : Env} {s : State} {m : MethodId} {av : Array Value} {below : List Frame} {meth : Method} {c : Code} {A : Nat → Prop} {G : Gv} {L : List Nat} {S : MS} {q : Int32} {K2 : Nat → Int32 → Nat → Int32 → MS → Option Int32} (hK2 : ∀ (x0 : Nat) (x1 : Int32) (x2 : Nat) (x3 : Int32) (H : Heap) (locs : List Loc) (ls : Array Slot), (x0 < shX.1 ∧ shX.2.1 x0 = 6) → (x2 < shX.1 ∧ shX.2.1 x2 = 9) → mW G shX L S A s H locs → lv_has ls 8 [(0, .ref (ad L x0)), (1, .int x1), (2, .ref (ad L x2)), (3, .int x3)] → K2 x0 x1 x2 x3 S = some q → W p l e (rmd (3)) s m av below meth c H locs 0 0 (MQ below (mQ G shX L S (some (.int q)) A) av s 0 0 A) (F0 m 2 ls [])) (C : mC p s m av meth c cX6_agrees RX6 8 (some .boolean)) : ∀ (x0 : Nat) (x1 : Int32) (x2 : Nat) (x3 : Int32) (y0 : Int32) (H : Heap) (locs : List Loc) (ls : Array Slot), (x0 < shX.1 ∧ shX.2.1 x0 = 6) → (x2 < shX.1 ∧ shX.2.1 x2 = 9) → mW G shX L S A s H locs → lv_has ls 8 [(0, .ref (ad L x0)), (1, .int x1), (2, .ref (ad L x2)), (3, .int x3)] → fX6_agrees_119 K2 x0 x1 x2 x3 y0 S = some q → W p l e (rmd (3)) s m av below meth c H locs 0 0 (MQ below (mQ G shX L S (some (.int q)) A) av s 0 0 A) (F0 m 119 ls [.int y0]) := by
  intro x0 x1 x2 x3 y0 H locs ls hx0 hx2 hW hl hf
  unfold fX6_agrees_119 at hf
  refine lv_istore (lv' := [(7, .int y0), (0, .ref (ad L x0)), (1, .int x1), (2, .ref (ad L x2)), (3, .int x3)]) C.1 C.2.1 dX6_agrees_119 hl (by decide) rfl (fun ls hl => ?_)
  refine lv_iload C.1 C.2.1 dX6_agrees_121 (lv_at hl 0 rfl) ?_
  refine lv_aload_n C.1 C.2.1 dX6_agrees_123 rfl (lv_at hl 1 rfl) ?_
  refine m_getr C hW hx0 flX6_14 (by decide) dX6_agrees_124 (fun hk2 => ?_)
  refine lv_iload_n C.1 C.2.1 dX6_agrees_127 rfl (lv_at hl 4 rfl) ?_
  refine lv_iconst C.1 C.2.1 dX6_agrees_128 ic_4 ?_
  obtain ⟨q3, h4, hf⟩ := bd hf
  refine m_callV (As := [.int x3, .int (4 : Int32)]) (rest := [.int y0]) C hW hk2 (cX7_get_ok  hk2 h4) mlX6_62 (by decide) rfl hl.1 rfl (Nat.le_of_ble_eq_true rfl) (Nat.le_of_ble_eq_true rfl) (Nat.le_of_ble_eq_true rfl) dX6_agrees_129 (fun H locs hW => ?_)
  refine lv_iconst C.1 C.2.1 dX6_agrees_132 ic_1 ?_
  refine lv_icmp_ne (tgt := 140) C.1 C.2.1 dX6_agrees_133 rfl (fun c5 => ?_) (fun c5 => ?_)
  · have hf := (if_neg c5).symm.trans hf
    refine lv_iconst C.1 C.2.1 dX6_agrees_140 ic_0 ?_
    exact kX6_agrees_141 hK2 C x0 x1 x2 x3 y0 (0 : Int32) _ _ _ hx0 hx2 hW (lv_sub hl [1, 2, 3, 4] rfl) hf
  · have hf := (if_pos c5).symm.trans hf
    refine lv_iconst C.1 C.2.1 dX6_agrees_136 ic_1 ?_
    refine lv_goto (tgt := 141) C.1 C.2.1 dX6_agrees_137 rfl ?_
    exact kX6_agrees_141 hK2 C x0 x1 x2 x3 y0 (1 : Int32) _ _ _ hx0 hx2 hW (lv_sub hl [1, 2, 3, 4] rfl) hf

set_option maxRecDepth 100000 in
theorem kX6_agrees_118 {p : Program} {l : Launch} {e : Env} {s : State} {m : MethodId} {av : Array Value} {below : List Frame} {meth : Method} {c : Code} {A : Nat → Prop} {G : Gv} {L : List Nat} {S : MS} {q : Int32} {K2 : Nat → Int32 → Nat → Int32 → MS → Option Int32} (hK2 : ∀ (x0 : Nat) (x1 : Int32) (x2 : Nat) (x3 : Int32) (H : Heap) (locs : List Loc) (ls : Array Slot), (x0 < shX.1 ∧ shX.2.1 x0 = 6) → (x2 < shX.1 ∧ shX.2.1 x2 = 9) → mW G shX L S A s H locs → lv_has ls 8 [(0, .ref (ad L x0)), (1, .int x1), (2, .ref (ad L x2)), (3, .int x3)] → K2 x0 x1 x2 x3 S = some q → W p l e (rmd (3)) s m av below meth c H locs 0 0 (MQ below (mQ G shX L S (some (.int q)) A) av s 0 0 A) (F0 m 2 ls [])) (C : mC p s m av meth c cX6_agrees RX6 8 (some .boolean)) : ∀ (x0 : Nat) (x1 : Int32) (x2 : Nat) (x3 : Int32) (H : Heap) (locs : List Loc) (ls : Array Slot), (x0 < shX.1 ∧ shX.2.1 x0 = 6) → (x2 < shX.1 ∧ shX.2.1 x2 = 9) → mW G shX L S A s H locs → lv_has ls 8 [(0, .ref (ad L x0)), (1, .int x1), (2, .ref (ad L x2)), (3, .int x3)] → fX6_agrees_118 K2 x0 x1 x2 x3 S = some q → W p l e (rmd (3)) s m av below meth c H locs 0 0 (MQ below (mQ G shX L S (some (.int q)) A) av s 0 0 A) (F0 m 118 ls []) := by
  intro x0 x1 x2 x3 H locs ls hx0 hx2 hW hl hf
  unfold fX6_agrees_118 at hf
  refine lv_iconst C.1 C.2.1 dX6_agrees_118 ic_0 ?_
  exact kX6_agrees_119 hK2 C x0 x1 x2 x3 (0 : Int32) _ _ _ hx0 hx2 hW (lv_sub hl [0, 1, 2, 3] rfl) hf

set_option maxRecDepth 100000 in
theorem kX6_agrees_84 {p : Program} {l : Launch} {e : Env} {s : State} {m : MethodId} {av : Array Value} {below : List Frame} {meth : Method} {c : Code} {A : Nat → Prop} {G : Gv} {L : List Nat} {S : MS} {q : Int32} {K2 : Nat → Int32 → Nat → Int32 → MS → Option Int32} (hK2 : ∀ (x0 : Nat) (x1 : Int32) (x2 : Nat) (x3 : Int32) (H : Heap) (locs : List Loc) (ls : Array Slot), (x0 < shX.1 ∧ shX.2.1 x0 = 6) → (x2 < shX.1 ∧ shX.2.1 x2 = 9) → mW G shX L S A s H locs → lv_has ls 8 [(0, .ref (ad L x0)), (1, .int x1), (2, .ref (ad L x2)), (3, .int x3)] → K2 x0 x1 x2 x3 S = some q → W p l e (rmd (3)) s m av below meth c H locs 0 0 (MQ below (mQ G shX L S (some (.int q)) A) av s 0 0 A) (F0 m 2 ls [])) (C : mC p s m av meth c cX6_agrees RX6 8 (some .boolean)) : ∀ (x0 : Nat) (x1 : Int32) (x2 : Nat) (x3 : Int32) (x5 : Int32) (y0 : Int32) (H : Heap) (locs : List Loc) (ls : Array Slot), (x0 < shX.1 ∧ shX.2.1 x0 = 6) → (x2 < shX.1 ∧ shX.2.1 x2 = 9) → mW G shX L S A s H locs → lv_has ls 8 [(0, .ref (ad L x0)), (1, .int x1), (2, .ref (ad L x2)), (3, .int x3), (5, .int x5)] → fX6_agrees_84 K2 x0 x1 x2 x3 x5 y0 S = some q → W p l e (rmd (3)) s m av below meth c H locs 0 0 (MQ below (mQ G shX L S (some (.int q)) A) av s 0 0 A) (F0 m 84 ls [.int y0]) := by
  intro x0 x1 x2 x3 x5 y0 H locs ls hx0 hx2 hW hl hf
  unfold fX6_agrees_84 at hf
  refine lv_istore (lv' := [(6, .int y0), (0, .ref (ad L x0)), (1, .int x1), (2, .ref (ad L x2)), (3, .int x3), (5, .int x5)]) C.1 C.2.1 dX6_agrees_84 hl (by decide) rfl (fun ls hl => ?_)
  refine lv_iload C.1 C.2.1 dX6_agrees_86 (lv_at hl 5 rfl) ?_
  refine lv_aload_n C.1 C.2.1 dX6_agrees_88 rfl (lv_at hl 1 rfl) ?_
  refine m_getr C hW hx0 flX6_14 (by decide) dX6_agrees_89 (fun hk6 => ?_)
  refine lv_iload_n C.1 C.2.1 dX6_agrees_92 rfl (lv_at hl 4 rfl) ?_
  refine lv_iconst C.1 C.2.1 dX6_agrees_93 ic_2 ?_
  obtain ⟨q7, h8, hf⟩ := bd hf
  refine m_callV (As := [.int x3, .int (2 : Int32)]) (rest := [.int x5]) C hW hk6 (cX7_get_ok  hk6 h8) mlX6_62 (by decide) rfl hl.1 rfl (Nat.le_of_ble_eq_true rfl) (Nat.le_of_ble_eq_true rfl) (Nat.le_of_ble_eq_true rfl) dX6_agrees_94 (fun H locs hW => ?_)
  refine lv_icmp_ne (tgt := 118) C.1 C.2.1 dX6_agrees_97 rfl (fun c9 => ?_) (fun c9 => ?_)
  · have hf := (if_neg c9).symm.trans hf
    exact kX6_agrees_118 hK2 C x0 x1 x2 x3 _ _ _ hx0 hx2 hW (lv_sub hl [1, 2, 3, 4] rfl) hf
  · have hf := (if_pos c9).symm.trans hf
    refine lv_iload C.1 C.2.1 dX6_agrees_100 (lv_at hl 0 rfl) ?_
    refine lv_aload_n C.1 C.2.1 dX6_agrees_102 rfl (lv_at hl 1 rfl) ?_
    refine m_getr C hW hx0 flX6_14 (by decide) dX6_agrees_103 (fun hk10 => ?_)
    refine lv_iload_n C.1 C.2.1 dX6_agrees_106 rfl (lv_at hl 4 rfl) ?_
    refine lv_iconst C.1 C.2.1 dX6_agrees_107 ic_3 ?_
    obtain ⟨q11, h12, hf⟩ := bd hf
    refine m_callV (As := [.int x3, .int (3 : Int32)]) (rest := [.int y0]) C hW hk10 (cX7_get_ok  hk10 h12) mlX6_62 (by decide) rfl hl.1 rfl (Nat.le_of_ble_eq_true rfl) (Nat.le_of_ble_eq_true rfl) (Nat.le_of_ble_eq_true rfl) dX6_agrees_108 (fun H locs hW => ?_)
    refine lv_icmp_ne (tgt := 118) C.1 C.2.1 dX6_agrees_111 rfl (fun c13 => ?_) (fun c13 => ?_)
    · have hf := (if_neg c13).symm.trans hf
      exact kX6_agrees_118 hK2 C x0 x1 x2 x3 _ _ _ hx0 hx2 hW (lv_sub hl [1, 2, 3, 4] rfl) hf
    · have hf := (if_pos c13).symm.trans hf
      refine lv_iconst C.1 C.2.1 dX6_agrees_114 ic_1 ?_
      refine lv_goto (tgt := 119) C.1 C.2.1 dX6_agrees_115 rfl ?_
      exact kX6_agrees_119 hK2 C x0 x1 x2 x3 (1 : Int32) _ _ _ hx0 hx2 hW (lv_sub hl [1, 2, 3, 4] rfl) hf

set_option maxRecDepth 100000 in
theorem kX6_agrees_66 {p : Program} {l : Launch} {e : Env} {s : State} {m : MethodId} {av : Array Value} {below : List Frame} {meth : Method} {c : Code} {A : Nat → Prop} {G : Gv} {L : List Nat} {S : MS} {q : Int32} {K2 : Nat → Int32 → Nat → Int32 → MS → Option Int32} (hK2 : ∀ (x0 : Nat) (x1 : Int32) (x2 : Nat) (x3 : Int32) (H : Heap) (locs : List Loc) (ls : Array Slot), (x0 < shX.1 ∧ shX.2.1 x0 = 6) → (x2 < shX.1 ∧ shX.2.1 x2 = 9) → mW G shX L S A s H locs → lv_has ls 8 [(0, .ref (ad L x0)), (1, .int x1), (2, .ref (ad L x2)), (3, .int x3)] → K2 x0 x1 x2 x3 S = some q → W p l e (rmd (3)) s m av below meth c H locs 0 0 (MQ below (mQ G shX L S (some (.int q)) A) av s 0 0 A) (F0 m 2 ls [])) (C : mC p s m av meth c cX6_agrees RX6 8 (some .boolean)) : ∀ (x0 : Nat) (x1 : Int32) (x2 : Nat) (x3 : Int32) (x4 : Int32) (y0 : Int32) (H : Heap) (locs : List Loc) (ls : Array Slot), (x0 < shX.1 ∧ shX.2.1 x0 = 6) → (x2 < shX.1 ∧ shX.2.1 x2 = 9) → mW G shX L S A s H locs → lv_has ls 8 [(0, .ref (ad L x0)), (1, .int x1), (2, .ref (ad L x2)), (3, .int x3), (4, .int x4)] → fX6_agrees_66 K2 x0 x1 x2 x3 x4 y0 S = some q → W p l e (rmd (3)) s m av below meth c H locs 0 0 (MQ below (mQ G shX L S (some (.int q)) A) av s 0 0 A) (F0 m 66 ls [.int y0]) := by
  intro x0 x1 x2 x3 x4 y0 H locs ls hx0 hx2 hW hl hf
  unfold fX6_agrees_66 at hf
  refine lv_istore (lv' := [(5, .int y0), (0, .ref (ad L x0)), (1, .int x1), (2, .ref (ad L x2)), (3, .int x3), (4, .int x4)]) C.1 C.2.1 dX6_agrees_66 hl (by decide) rfl (fun ls hl => ?_)
  refine lv_iload C.1 C.2.1 dX6_agrees_68 (lv_at hl 5 rfl) ?_
  refine lv_if_eq (tgt := 80) C.1 C.2.1 dX6_agrees_70 rfl (fun c14 => ?_) (fun c14 => ?_)
  · have hf := (if_pos c14).symm.trans hf
    refine lv_aload_n C.1 C.2.1 dX6_agrees_80 rfl (lv_at hl 3 rfl) ?_
    refine m_geti C hW hx2 flX6_82 dX6_agrees_81 ?_
    exact kX6_agrees_84 hK2 C x0 x1 x2 x3 y0 (gI S x2 13) _ _ _ hx0 hx2 hW (lv_sub hl [1, 2, 3, 4, 0] rfl) hf
  · have hf := (if_neg c14).symm.trans hf
    refine lv_aload_n C.1 C.2.1 dX6_agrees_73 rfl (lv_at hl 3 rfl) ?_
    refine m_geti C hW hx2 flX6_79 dX6_agrees_74 ?_
    refine lv_goto (tgt := 84) C.1 C.2.1 dX6_agrees_77 rfl ?_
    exact kX6_agrees_84 hK2 C x0 x1 x2 x3 y0 (gI S x2 5) _ _ _ hx0 hx2 hW (lv_sub hl [1, 2, 3, 4, 0] rfl) hf

set_option maxRecDepth 100000 in
theorem kX6_agrees_48 {p : Program} {l : Launch} {e : Env} {s : State} {m : MethodId} {av : Array Value} {below : List Frame} {meth : Method} {c : Code} {A : Nat → Prop} {G : Gv} {L : List Nat} {S : MS} {q : Int32} {K2 : Nat → Int32 → Nat → Int32 → MS → Option Int32} (hK2 : ∀ (x0 : Nat) (x1 : Int32) (x2 : Nat) (x3 : Int32) (H : Heap) (locs : List Loc) (ls : Array Slot), (x0 < shX.1 ∧ shX.2.1 x0 = 6) → (x2 < shX.1 ∧ shX.2.1 x2 = 9) → mW G shX L S A s H locs → lv_has ls 8 [(0, .ref (ad L x0)), (1, .int x1), (2, .ref (ad L x2)), (3, .int x3)] → K2 x0 x1 x2 x3 S = some q → W p l e (rmd (3)) s m av below meth c H locs 0 0 (MQ below (mQ G shX L S (some (.int q)) A) av s 0 0 A) (F0 m 2 ls [])) (C : mC p s m av meth c cX6_agrees RX6 8 (some .boolean)) : ∀ (x0 : Nat) (x1 : Int32) (x2 : Nat) (x3 : Int32) (y0 : Int32) (H : Heap) (locs : List Loc) (ls : Array Slot), (x0 < shX.1 ∧ shX.2.1 x0 = 6) → (x2 < shX.1 ∧ shX.2.1 x2 = 9) → mW G shX L S A s H locs → lv_has ls 8 [(0, .ref (ad L x0)), (1, .int x1), (2, .ref (ad L x2)), (3, .int x3)] → fX6_agrees_48 K2 x0 x1 x2 x3 y0 S = some q → W p l e (rmd (3)) s m av below meth c H locs 0 0 (MQ below (mQ G shX L S (some (.int q)) A) av s 0 0 A) (F0 m 48 ls [.int y0]) := by
  intro x0 x1 x2 x3 y0 H locs ls hx0 hx2 hW hl hf
  unfold fX6_agrees_48 at hf
  refine lv_istore (lv' := [(4, .int y0), (0, .ref (ad L x0)), (1, .int x1), (2, .ref (ad L x2)), (3, .int x3)]) C.1 C.2.1 dX6_agrees_48 hl (by decide) rfl (fun ls hl => ?_)
  refine lv_iload C.1 C.2.1 dX6_agrees_50 (lv_at hl 0 rfl) ?_
  refine lv_if_eq (tgt := 62) C.1 C.2.1 dX6_agrees_52 rfl (fun c15 => ?_) (fun c15 => ?_)
  · have hf := (if_pos c15).symm.trans hf
    refine lv_aload_n C.1 C.2.1 dX6_agrees_62 rfl (lv_at hl 3 rfl) ?_
    refine m_geti C hW hx2 flX6_76 dX6_agrees_63 ?_
    exact kX6_agrees_66 hK2 C x0 x1 x2 x3 y0 (gI S x2 12) _ _ _ hx0 hx2 hW (lv_sub hl [1, 2, 3, 4, 0] rfl) hf
  · have hf := (if_neg c15).symm.trans hf
    refine lv_aload_n C.1 C.2.1 dX6_agrees_55 rfl (lv_at hl 3 rfl) ?_
    refine m_geti C hW hx2 flX6_71 dX6_agrees_56 ?_
    refine lv_goto (tgt := 66) C.1 C.2.1 dX6_agrees_59 rfl ?_
    exact kX6_agrees_66 hK2 C x0 x1 x2 x3 y0 (gI S x2 4) _ _ _ hx0 hx2 hW (lv_sub hl [1, 2, 3, 4, 0] rfl) hf

set_option maxRecDepth 100000 in
theorem kX6_agrees_2 {p : Program} {l : Launch} {e : Env} {s : State} {m : MethodId} {av : Array Value} {below : List Frame} {meth : Method} {c : Code} {A : Nat → Prop} {G : Gv} {L : List Nat} {S : MS} {q : Int32}  (C : mC p s m av meth c cX6_agrees RX6 8 (some .boolean)) : ∀ (n : Nat) (x0 : Nat) (x1 : Int32) (x2 : Nat) (x3 : Int32) (H : Heap) (locs : List Loc) (ls : Array Slot), (x0 < shX.1 ∧ shX.2.1 x0 = 6) → (x2 < shX.1 ∧ shX.2.1 x2 = 9) → mW G shX L S A s H locs → lv_has ls 8 [(0, .ref (ad L x0)), (1, .int x1), (2, .ref (ad L x2)), (3, .int x3)] → fX6_agrees_2  n x0 x1 x2 x3 S = some q → W p l e (rmd (3)) s m av below meth c H locs 0 0 (MQ below (mQ G shX L S (some (.int q)) A) av s 0 0 A) (F0 m 2 ls []) := by
  intro n
  induction n with
  | zero =>
    intro x0 x1 x2 x3 H locs ls hx0 hx2 hW hl hf
    rw [fX6_agrees_2] at hf
    cases hf
  | succ n ih =>
    intro x0 x1 x2 x3 H locs ls hx0 hx2 hW hl hf
    rw [fX6_agrees_2] at hf
    refine lv_iload_n C.1 C.2.1 dX6_agrees_2 rfl (lv_at hl 3 rfl) ?_
    refine lv_aload_n C.1 C.2.1 dX6_agrees_3 rfl (lv_at hl 0 rfl) ?_
    obtain ⟨q16, h17, hf⟩ := bd hf
    refine m_callV (As := []) (rest := [.int x3]) C hW hx0 (cX6_reach_ok  hx0 h17) mlX6_53 (by decide) rfl hl.1 rfl (Nat.le_of_ble_eq_true rfl) (Nat.le_of_ble_eq_true rfl) (Nat.le_of_ble_eq_true rfl) dX6_agrees_4 (fun H locs hW => ?_)
    refine lv_icmp_ge (tgt := 152) C.1 C.2.1 dX6_agrees_7 rfl (fun c18 => ?_) (fun c18 => ?_)
    · have hf := (if_pos c18).symm.trans hf
      refine lv_iconst C.1 C.2.1 dX6_agrees_152 ic_1 ?_
      cases hf
      exact m_zret C hW rfl dX6_agrees_153
    · have hf := (if_neg c18).symm.trans hf
      refine lv_aload_n C.1 C.2.1 dX6_agrees_10 rfl (lv_at hl 0 rfl) ?_
      refine lv_iload_n C.1 C.2.1 dX6_agrees_11 rfl (lv_at hl 3 rfl) ?_
      obtain ⟨q19, h20, hf⟩ := bd hf
      refine m_callV (As := [.int x3]) (rest := []) C hW hx0 (cX6_isKnown_ok  hx0 h20) mlX6_65 (by decide) rfl hl.1 rfl (Nat.le_of_ble_eq_true rfl) (Nat.le_of_ble_eq_true rfl) (Nat.le_of_ble_eq_true rfl) dX6_agrees_12 (fun H locs hW => ?_)
      refine lv_if_eq (tgt := 146) C.1 C.2.1 dX6_agrees_15 rfl (fun c21 => ?_) (fun c21 => ?_)
      · have hf := (if_pos c21).symm.trans hf
        exact kX6_agrees_146 ih C x0 x1 x2 x3 _ _ _ hx0 hx2 hW (lv_sub hl [0, 1, 2, 3] rfl) hf
      · have hf := (if_neg c21).symm.trans hf
        refine lv_aload_n C.1 C.2.1 dX6_agrees_18 rfl (lv_at hl 0 rfl) ?_
        refine m_getr C hW hx0 flX6_14 (by decide) dX6_agrees_19 (fun hk22 => ?_)
        refine lv_iload_n C.1 C.2.1 dX6_agrees_22 rfl (lv_at hl 3 rfl) ?_
        refine lv_iconst C.1 C.2.1 dX6_agrees_23 ic_0 ?_
        obtain ⟨q23, h24, hf⟩ := bd hf
        refine m_callV (As := [.int x3, .int (0 : Int32)]) (rest := []) C hW hk22 (cX7_get_ok  hk22 h24) mlX6_62 (by decide) rfl hl.1 rfl (Nat.le_of_ble_eq_true rfl) (Nat.le_of_ble_eq_true rfl) (Nat.le_of_ble_eq_true rfl) dX6_agrees_24 (fun H locs hW => ?_)
        refine lv_iload_n C.1 C.2.1 dX6_agrees_27 rfl (lv_at hl 1 rfl) ?_
        refine lv_icmp_ne (tgt := 146) C.1 C.2.1 dX6_agrees_28 rfl (fun c25 => ?_) (fun c25 => ?_)
        · have hf := (if_neg c25).symm.trans hf
          exact kX6_agrees_146 ih C x0 x1 x2 x3 _ _ _ hx0 hx2 hW (lv_sub hl [0, 1, 2, 3] rfl) hf
        · have hf := (if_pos c25).symm.trans hf
          refine lv_aload_n C.1 C.2.1 dX6_agrees_31 rfl (lv_at hl 0 rfl) ?_
          refine m_getr C hW hx0 flX6_14 (by decide) dX6_agrees_32 (fun hk26 => ?_)
          refine lv_iload_n C.1 C.2.1 dX6_agrees_35 rfl (lv_at hl 3 rfl) ?_
          refine lv_iconst C.1 C.2.1 dX6_agrees_36 ic_1 ?_
          obtain ⟨q27, h28, hf⟩ := bd hf
          refine m_callV (As := [.int x3, .int (1 : Int32)]) (rest := []) C hW hk26 (cX7_get_ok  hk26 h28) mlX6_62 (by decide) rfl hl.1 rfl (Nat.le_of_ble_eq_true rfl) (Nat.le_of_ble_eq_true rfl) (Nat.le_of_ble_eq_true rfl) dX6_agrees_37 (fun H locs hW => ?_)
          refine lv_if_ne (tgt := 47) C.1 C.2.1 dX6_agrees_40 rfl (fun c29 => ?_) (fun c29 => ?_)
          · have hf := (if_neg c29).symm.trans hf
            refine lv_iconst C.1 C.2.1 dX6_agrees_47 ic_0 ?_
            exact kX6_agrees_48 ih C x0 x1 x2 x3 (0 : Int32) _ _ _ hx0 hx2 hW (lv_sub hl [0, 1, 2, 3] rfl) hf
          · have hf := (if_pos c29).symm.trans hf
            refine lv_iconst C.1 C.2.1 dX6_agrees_43 ic_1 ?_
            refine lv_goto (tgt := 48) C.1 C.2.1 dX6_agrees_44 rfl ?_
            exact kX6_agrees_48 ih C x0 x1 x2 x3 (1 : Int32) _ _ _ hx0 hx2 hW (lv_sub hl [0, 1, 2, 3] rfl) hf

set_option maxRecDepth 100000 in
theorem cX6_agrees_ok {l : Launch} {G : Gv} {L : List Nat} {S : MS} {a0 : Nat} {a1 : Int32} {a2 : Nat} {q : Int32} (ha0 : a0 < shX.1 ∧ shX.2.1 a0 = 6) (ha2 : a2 < shX.1 ∧ shX.2.1 a2 = 9) (hf : fX6_agrees a0 a1 a2 S = some q) : Mt l yX6_agrees cX6_agrees 8 (some .boolean) (3) G shX L S [.ref (ad L a0), .int a1, .ref (ad L a2)] (some (.int q)) S := by
  refine m_enter (lv := [(0, .ref (ad L a0)), (1, .int a1), (2, .ref (ad L a2))]) (plainFor_of_name (by decide)) (Nat.le_of_ble_eq_true rfl) rfl ?_
  intro p e s m below meth c A ls C hW hl
  unfold fX6_agrees at hf
  refine lv_iconst C.1 C.2.1 dX6_agrees_0 ic_0 ?_
  refine lv_istore_n (lv' := [(3, .int (0 : Int32)), (0, .ref (ad L a0)), (1, .int a1), (2, .ref (ad L a2))]) C.1 C.2.1 dX6_agrees_1 rfl hl (by decide) rfl (fun ls hl => ?_)
  exact kX6_agrees_2  C 1000 a0 a1 a2 (0 : Int32) _ _ _ ha0 ha2 hW (lv_sub hl [1, 2, 3, 0] rfl) hf

def fX10_startAnew (a0 : Nat) (S : MS) : Option MS := (fX8_settleSuns  (gR S a0 1) S).bind fun q2 => (fX9_begin  (gR (pR q2 (gR q2 a0 4) 1 (gR q2 a0 1)) a0 9) (gR (pR q2 (gR q2 a0 4) 1 (gR q2 a0 1)) a0 1) (gI (pR q2 (gR q2 a0 4) 1 (gR q2 a0 1)) (gR (pR q2 (gR q2 a0 4) 1 (gR q2 a0 1)) a0 1) 10) (gI (pR q2 (gR q2 a0 4) 1 (gR q2 a0 1)) (gR (pR q2 (gR q2 a0 4) 1 (gR q2 a0 1)) a0 1) 11) (pR q2 (gR q2 a0 4) 1 (gR q2 a0 1))).bind fun q10 => (fX2_forget  (gR (pI q10 a0 15 (0 : Int32)) a0 7) (pI q10 a0 15 (0 : Int32))).bind fun q13 => (fX6_forget  (gR q13 a0 8) q13).bind fun q16 => some q16
set_option maxRecDepth 100000 in
theorem cX10_startAnew_ok {l : Launch} {G : Gv} {L : List Nat} {S : MS} {a0 : Nat} {q : MS} (ha0 : a0 < shX.1 ∧ shX.2.1 a0 = 10) (hf : fX10_startAnew a0 S = some q) : Mt l yX10_startAnew cX10_startAnew 1 none (3) G shX L S [.ref (ad L a0)] none q := by
  refine m_enter (lv := [(0, .ref (ad L a0))]) (plainFor_of_name (by decide)) (Nat.le_of_ble_eq_true rfl) rfl ?_
  intro p e s m below meth c A ls C hW hl
  unfold fX10_startAnew at hf
  refine lv_aload_n C.1 C.2.1 dX10_startAnew_0 rfl (lv_at hl 0 rfl) ?_
  refine m_getr C hW ha0 flX10_16 (by decide) dX10_startAnew_1 (fun hk1 => ?_)
  obtain ⟨q2, h3, hf⟩ := bd hf
  refine m_callV (As := []) (rest := []) C hW hk1 (cX8_settleSuns_ok  hk1 h3) mlX10_120 (by decide) rfl hl.1 rfl (Nat.le_of_ble_eq_true rfl) (Nat.le_of_ble_eq_true rfl) (Nat.le_of_ble_eq_true rfl) dX10_startAnew_4 (fun H locs hW => ?_)
  refine lv_aload_n C.1 C.2.1 dX10_startAnew_7 rfl (lv_at hl 0 rfl) ?_
  refine m_getr C hW ha0 flX10_35 (by decide) dX10_startAnew_8 (fun hk4 => ?_)
  refine lv_aload_n C.1 C.2.1 dX10_startAnew_11 rfl (lv_at hl 0 rfl) ?_
  refine m_getr C hW ha0 flX10_16 (by decide) dX10_startAnew_12 (fun hk5 => ?_)
  refine m_putr C hW hk4 fpX10_123 (by decide) (Or.inl ⟨_, rfl⟩) hk5 dX10_startAnew_15 (fun H locs hW => ?_)
  refine lv_aload_n C.1 C.2.1 dX10_startAnew_18 rfl (lv_at hl 0 rfl) ?_
  refine m_getr C hW ha0 flX10_72 (by decide) dX10_startAnew_19 (fun hk6 => ?_)
  refine lv_aload_n C.1 C.2.1 dX10_startAnew_22 rfl (lv_at hl 0 rfl) ?_
  refine m_getr C hW ha0 flX10_16 (by decide) dX10_startAnew_23 (fun hk7 => ?_)
  refine lv_aload_n C.1 C.2.1 dX10_startAnew_26 rfl (lv_at hl 0 rfl) ?_
  refine m_getr C hW ha0 flX10_16 (by decide) dX10_startAnew_27 (fun hk8 => ?_)
  refine m_geti C hW hk8 flX10_124 dX10_startAnew_30 ?_
  refine lv_aload_n C.1 C.2.1 dX10_startAnew_33 rfl (lv_at hl 0 rfl) ?_
  refine m_getr C hW ha0 flX10_16 (by decide) dX10_startAnew_34 (fun hk9 => ?_)
  refine m_geti C hW hk9 flX10_127 dX10_startAnew_37 ?_
  obtain ⟨q10, h11, hf⟩ := bd hf
  refine m_callV (As := [.ref (ad L (gR (pR q2 (gR q2 a0 4) 1 (gR q2 a0 1)) a0 1)), .int (gI (pR q2 (gR q2 a0 4) 1 (gR q2 a0 1)) (gR (pR q2 (gR q2 a0 4) 1 (gR q2 a0 1)) a0 1) 10), .int (gI (pR q2 (gR q2 a0 4) 1 (gR q2 a0 1)) (gR (pR q2 (gR q2 a0 4) 1 (gR q2 a0 1)) a0 1) 11)]) (rest := []) C hW hk6 (cX9_begin_ok  hk6 hk7 h11) mlX10_130 (by decide) rfl hl.1 rfl (Nat.le_of_ble_eq_true rfl) (Nat.le_of_ble_eq_true rfl) (Nat.le_of_ble_eq_true rfl) dX10_startAnew_40 (fun H locs hW => ?_)
  refine lv_aload_n C.1 C.2.1 dX10_startAnew_43 rfl (lv_at hl 0 rfl) ?_
  refine lv_iconst C.1 C.2.1 dX10_startAnew_44 ic_0 ?_
  refine m_putz C hW ha0 fpX10_133 rfl dX10_startAnew_45 (fun H locs hW => ?_)
  refine lv_aload_n C.1 C.2.1 dX10_startAnew_48 rfl (lv_at hl 0 rfl) ?_
  refine m_getr C hW ha0 flX10_58 (by decide) dX10_startAnew_49 (fun hk12 => ?_)
  obtain ⟨q13, h14, hf⟩ := bd hf
  refine m_callV (As := []) (rest := []) C hW hk12 (cX2_forget_ok  hk12 h14) mlX10_137 (by decide) rfl hl.1 rfl (Nat.le_of_ble_eq_true rfl) (Nat.le_of_ble_eq_true rfl) (Nat.le_of_ble_eq_true rfl) dX10_startAnew_52 (fun H locs hW => ?_)
  refine lv_aload_n C.1 C.2.1 dX10_startAnew_55 rfl (lv_at hl 0 rfl) ?_
  refine m_getr C hW ha0 flX10_65 (by decide) dX10_startAnew_56 (fun hk15 => ?_)
  obtain ⟨q16, h17, hf⟩ := bd hf
  refine m_callV (As := []) (rest := []) C hW hk15 (cX6_forget_ok  hk15 h17) mlX10_140 (by decide) rfl hl.1 rfl (Nat.le_of_ble_eq_true rfl) (Nat.le_of_ble_eq_true rfl) (Nat.le_of_ble_eq_true rfl) dX10_startAnew_59 (fun H locs hW => ?_)
  cases hf
  exact m_vret C hW dX10_startAnew_62

def fX10_man (a0 : Nat) (a1 : Int32) (a2 : Int32) (S : MS) : Option Int32 := (fX10_isMan  a0 a1 S).bind fun q1 => (if q1 = (0 : Int32) then some (-1 : Int32) else (if a2 = (0 : Int32) then (fX7_get  (gR S (gR S a0 1) 6) a1 (1 : Int32) S).bind fun q7 => some q7 else if a2 = (1 : Int32) then (fX7_get  (gR S (gR S a0 1) 6) a1 (2 : Int32) S).bind fun q12 => some q12 else if a2 = (2 : Int32) then (if bnd a1 (lnX (gR S (gR S a0 9) 0)) = true then some (gI S (gR S (gR S a0 9) 0) a1.toNatClampNeg) else none) else if a2 = (3 : Int32) then (if bnd a1 (lnX (gR S (gR S a0 9) 1)) = true then some (gI S (gR S (gR S a0 9) 1) a1.toNatClampNeg) else none) else if a2 = (4 : Int32) then (if bnd a1 (lnX (gR S (gR S a0 9) 2)) = true then some (gI S (gR S (gR S a0 9) 2) a1.toNatClampNeg) else none) else if a2 = (5 : Int32) then (fX10_engagedTo  a0 a1 S).bind fun q27 => some q27 else some (-1 : Int32)))
set_option maxRecDepth 100000 in
theorem cX10_man_ok {l : Launch} {G : Gv} {L : List Nat} {S : MS} {a0 : Nat} {a1 : Int32} {a2 : Int32} {q : Int32} (ha0 : a0 < shX.1 ∧ shX.2.1 a0 = 10) (hf : fX10_man a0 a1 a2 S = some q) : Mt l yX10_man cX10_man 3 (some .int) (3) G shX L S [.ref (ad L a0), .int a1, .int a2] (some (.int q)) S := by
  refine m_enter (lv := [(0, .ref (ad L a0)), (1, .int a1), (2, .int a2)]) (plainFor_of_name (by decide)) (Nat.le_of_ble_eq_true rfl) rfl ?_
  intro p e s m below meth c A ls C hW hl
  unfold fX10_man at hf
  refine lv_aload_n C.1 C.2.1 dX10_man_0 rfl (lv_at hl 0 rfl) ?_
  refine lv_iload_n C.1 C.2.1 dX10_man_1 rfl (lv_at hl 1 rfl) ?_
  obtain ⟨q1, h2, hf⟩ := bd hf
  refine m_callV (As := [.int a1]) (rest := []) C hW ha0 (cX10_isMan_ok  ha0 h2) mlX10_201 (by decide) rfl hl.1 rfl (Nat.le_of_ble_eq_true rfl) (Nat.le_of_ble_eq_true rfl) (Nat.le_of_ble_eq_true rfl) dX10_man_2 (fun H locs hW => ?_)
  refine lv_if_ne (tgt := 10) C.1 C.2.1 dX10_man_5 rfl (fun c3 => ?_) (fun c3 => ?_)
  · have hf := (if_neg c3).symm.trans hf
    refine lv_iload_n C.1 C.2.1 dX10_man_10 rfl (lv_at hl 2 rfl) ?_
    by_cases c4 : a2 = (0 : Int32)
    · have hf := (if_pos c4).symm.trans hf
      refine lv_tableIn (tgt := 48) C.1 C.2.1 dX10_man_11 (by rw [c4]; decide) (by rw [c4]; decide) (by rw [c4]; rfl) rfl ?_
      refine lv_aload_n C.1 C.2.1 dX10_man_48 rfl (lv_at hl 0 rfl) ?_
      refine m_getr C hW ha0 flX10_16 (by decide) dX10_man_49 (fun hk5 => ?_)
      refine m_getr C hW hk5 flX10_154 (by decide) dX10_man_52 (fun hk6 => ?_)
      refine lv_iload_n C.1 C.2.1 dX10_man_55 rfl (lv_at hl 1 rfl) ?_
      refine lv_iconst C.1 C.2.1 dX10_man_56 ic_1 ?_
      obtain ⟨q7, h8, hf⟩ := bd hf
      refine m_callV (As := [.int a1, .int (1 : Int32)]) (rest := []) C hW hk6 (cX7_get_ok  hk6 h8) mlX10_198 (by decide) rfl hl.1 rfl (Nat.le_of_ble_eq_true rfl) (Nat.le_of_ble_eq_true rfl) (Nat.le_of_ble_eq_true rfl) dX10_man_57 (fun H locs hW => ?_)
      cases hf
      exact m_iret C hW dX10_man_60
    have hf := (if_neg c4).symm.trans hf
    by_cases c9 : a2 = (1 : Int32)
    · have hf := (if_pos c9).symm.trans hf
      refine lv_tableIn (tgt := 61) C.1 C.2.1 dX10_man_11 (by rw [c9]; decide) (by rw [c9]; decide) (by rw [c9]; rfl) rfl ?_
      refine lv_aload_n C.1 C.2.1 dX10_man_61 rfl (lv_at hl 0 rfl) ?_
      refine m_getr C hW ha0 flX10_16 (by decide) dX10_man_62 (fun hk10 => ?_)
      refine m_getr C hW hk10 flX10_154 (by decide) dX10_man_65 (fun hk11 => ?_)
      refine lv_iload_n C.1 C.2.1 dX10_man_68 rfl (lv_at hl 1 rfl) ?_
      refine lv_iconst C.1 C.2.1 dX10_man_69 ic_2 ?_
      obtain ⟨q12, h13, hf⟩ := bd hf
      refine m_callV (As := [.int a1, .int (2 : Int32)]) (rest := []) C hW hk11 (cX7_get_ok  hk11 h13) mlX10_198 (by decide) rfl hl.1 rfl (Nat.le_of_ble_eq_true rfl) (Nat.le_of_ble_eq_true rfl) (Nat.le_of_ble_eq_true rfl) dX10_man_70 (fun H locs hW => ?_)
      cases hf
      exact m_iret C hW dX10_man_73
    have hf := (if_neg c9).symm.trans hf
    by_cases c14 : a2 = (2 : Int32)
    · have hf := (if_pos c14).symm.trans hf
      refine lv_tableIn (tgt := 74) C.1 C.2.1 dX10_man_11 (by rw [c14]; decide) (by rw [c14]; decide) (by rw [c14]; rfl) rfl ?_
      refine lv_aload_n C.1 C.2.1 dX10_man_74 rfl (lv_at hl 0 rfl) ?_
      refine m_getr C hW ha0 flX10_72 (by decide) dX10_man_75 (fun hk15 => ?_)
      refine m_getr C hW hk15 flX10_204 (by decide) dX10_man_78 (fun hk16 => ?_)
      refine lv_iload_n C.1 C.2.1 dX10_man_81 rfl (lv_at hl 1 rfl) ?_
      obtain ⟨hb17, hf⟩ := gd hf
      refine m_iald C hW hk16 hb17 dX10_man_82 ?_
      cases hf
      exact m_iret C hW dX10_man_83
    have hf := (if_neg c14).symm.trans hf
    by_cases c18 : a2 = (3 : Int32)
    · have hf := (if_pos c18).symm.trans hf
      refine lv_tableIn (tgt := 84) C.1 C.2.1 dX10_man_11 (by rw [c18]; decide) (by rw [c18]; decide) (by rw [c18]; rfl) rfl ?_
      refine lv_aload_n C.1 C.2.1 dX10_man_84 rfl (lv_at hl 0 rfl) ?_
      refine m_getr C hW ha0 flX10_72 (by decide) dX10_man_85 (fun hk19 => ?_)
      refine m_getr C hW hk19 flX10_208 (by decide) dX10_man_88 (fun hk20 => ?_)
      refine lv_iload_n C.1 C.2.1 dX10_man_91 rfl (lv_at hl 1 rfl) ?_
      obtain ⟨hb21, hf⟩ := gd hf
      refine m_iald C hW hk20 hb21 dX10_man_92 ?_
      cases hf
      exact m_iret C hW dX10_man_93
    have hf := (if_neg c18).symm.trans hf
    by_cases c22 : a2 = (4 : Int32)
    · have hf := (if_pos c22).symm.trans hf
      refine lv_tableIn (tgt := 94) C.1 C.2.1 dX10_man_11 (by rw [c22]; decide) (by rw [c22]; decide) (by rw [c22]; rfl) rfl ?_
      refine lv_aload_n C.1 C.2.1 dX10_man_94 rfl (lv_at hl 0 rfl) ?_
      refine m_getr C hW ha0 flX10_72 (by decide) dX10_man_95 (fun hk23 => ?_)
      refine m_getr C hW hk23 flX10_211 (by decide) dX10_man_98 (fun hk24 => ?_)
      refine lv_iload_n C.1 C.2.1 dX10_man_101 rfl (lv_at hl 1 rfl) ?_
      obtain ⟨hb25, hf⟩ := gd hf
      refine m_iald C hW hk24 hb25 dX10_man_102 ?_
      cases hf
      exact m_iret C hW dX10_man_103
    have hf := (if_neg c22).symm.trans hf
    by_cases c26 : a2 = (5 : Int32)
    · have hf := (if_pos c26).symm.trans hf
      refine lv_tableIn (tgt := 104) C.1 C.2.1 dX10_man_11 (by rw [c26]; decide) (by rw [c26]; decide) (by rw [c26]; rfl) rfl ?_
      refine lv_aload_n C.1 C.2.1 dX10_man_104 rfl (lv_at hl 0 rfl) ?_
      refine lv_iload_n C.1 C.2.1 dX10_man_105 rfl (lv_at hl 1 rfl) ?_
      obtain ⟨q27, h28, hf⟩ := bd hf
      refine m_callV (As := [.int a1]) (rest := []) C hW ha0 (cX10_engagedTo_ok  ha0 h28) mlX10_214 (by decide) rfl hl.1 rfl (Nat.le_of_ble_eq_true rfl) (Nat.le_of_ble_eq_true rfl) (Nat.le_of_ble_eq_true rfl) dX10_man_106 (fun H locs hW => ?_)
      cases hf
      exact m_iret C hW dX10_man_109
    have hf := (if_neg c26).symm.trans hf
    by_cases ho29 : a2.toInt < 0 ∨ 5 < a2.toInt
    · refine lv_tableOut (tgt := 110) C.1 C.2.1 dX10_man_11 ho29 rfl ?_
      refine lv_iconst C.1 C.2.1 dX10_man_110 ic_m1 ?_
      cases hf
      exact m_iret C hW dX10_man_111
    · exfalso
      have := tn_e c4 (0) (by decide)
      have := tn_e c9 (1) (by decide)
      have := tn_e c14 (2) (by decide)
      have := tn_e c18 (3) (by decide)
      have := tn_e c22 (4) (by decide)
      have := tn_e c26 (5) (by decide)
      omega
  · have hf := (if_pos c3).symm.trans hf
    refine lv_iconst C.1 C.2.1 dX10_man_8 ic_m1 ?_
    cases hf
    exact m_iret C hW dX10_man_9

def fX10_light_34  (x0 : Nat) (x1 : Int32) (y0 : Int32) (y1 : Int32) (S : MS) : Option (Int32 × MS) := (if y0 = y1 then some ((0 : Int32), S) else (fX2_note  (gR S x0 7) (gR S x0 9) S).bind fun q4 => some ((1 : Int32), pI q4 (gR q4 x0 9) 7 ((gI q4 (gR q4 x0 9) 7) ^^^ ((1 : Int32) <<< (x1 &&& 31)))))
def fX10_light (a0 : Nat) (a1 : Int32) (a2 : Int32) (S : MS) : Option (Int32 × MS) := (fX7_has  (gR S (gR S a0 1) 3) a1 S).bind fun q9 => (if q9 = (0 : Int32) then some ((0 : Int32), S) else (if a2 = (0 : Int32) then fX10_light_34  a0 a1 (((gI S (gR S a0 9) 7) >>> (a1 &&& 31)) &&& (1 : Int32)) (0 : Int32) S else fX10_light_34  a0 a1 (((gI S (gR S a0 9) 7) >>> (a1 &&& 31)) &&& (1 : Int32)) (1 : Int32) S))
set_option maxRecDepth 100000 in
theorem kX10_light_34 {p : Program} {l : Launch} {e : Env} {s : State} {m : MethodId} {av : Array Value} {below : List Frame} {meth : Method} {c : Code} {A : Nat → Prop} {G : Gv} {L : List Nat} {q : (Int32 × MS)}  (C : mC p s m av meth c cX10_light RX10 3 (some .boolean)) : ∀ (x0 : Nat) (x1 : Int32) (y0 : Int32) (y1 : Int32) (S : MS) (H : Heap) (locs : List Loc) (ls : Array Slot), (x0 < shX.1 ∧ shX.2.1 x0 = 10) → mW G shX L S A s H locs → lv_has ls 3 [(0, .ref (ad L x0)), (1, .int x1)] → fX10_light_34  x0 x1 y0 y1 S = some q → W p l e (rmd (3)) s m av below meth c H locs 0 0 (MQ below (mQ G shX L q.2 (some (.int q.1)) A) av s 0 0 A) (F0 m 34 ls [.int y1, .int y0]) := by
  intro x0 x1 y0 y1 S H locs ls hx0 hW hl hf
  unfold fX10_light_34 at hf
  refine lv_icmp_ne (tgt := 39) C.1 C.2.1 dX10_light_34 rfl (fun c1 => ?_) (fun c1 => ?_)
  · have hf := (if_neg c1).symm.trans hf
    refine lv_aload_n C.1 C.2.1 dX10_light_39 rfl (lv_at hl 0 rfl) ?_
    refine m_getr C hW hx0 flX10_58 (by decide) dX10_light_40 (fun hk2 => ?_)
    refine lv_aload_n C.1 C.2.1 dX10_light_43 rfl (lv_at hl 0 rfl) ?_
    refine m_getr C hW hx0 flX10_72 (by decide) dX10_light_44 (fun hk3 => ?_)
    obtain ⟨q4, h5, hf⟩ := bd hf
    refine m_callV (As := [.ref (ad L (gR S x0 9))]) (rest := []) C hW hk2 (cX2_note_ok  hk2 hk3 h5) mlX10_248 (by decide) rfl hl.1 rfl (Nat.le_of_ble_eq_true rfl) (Nat.le_of_ble_eq_true rfl) (Nat.le_of_ble_eq_true rfl) dX10_light_47 (fun H locs hW => ?_)
    refine lv_aload_n C.1 C.2.1 dX10_light_50 rfl (lv_at hl 0 rfl) ?_
    refine m_getr C hW hx0 flX10_72 (by decide) dX10_light_51 (fun hk6 => ?_)
    refine lv_dup C.1 C.2.1 dX10_light_54 rfl ?_
    refine m_geti C hW hk6 flX10_218 dX10_light_55 ?_
    refine lv_iconst C.1 C.2.1 dX10_light_58 ic_1 ?_
    refine lv_iload_n C.1 C.2.1 dX10_light_59 rfl (lv_at hl 1 rfl) ?_
    refine lv_ishl C.1 C.2.1 dX10_light_60 ?_
    refine lv_ixor C.1 C.2.1 dX10_light_61 ?_
    refine m_puti C hW hk6 fpX10_218 dX10_light_62 (fun H locs hW => ?_)
    refine lv_iconst C.1 C.2.1 dX10_light_65 ic_1 ?_
    cases hf
    exact m_zret C hW rfl dX10_light_66
  · have hf := (if_pos c1).symm.trans hf
    refine lv_iconst C.1 C.2.1 dX10_light_37 ic_0 ?_
    cases hf
    exact m_zret C hW rfl dX10_light_38

set_option maxRecDepth 100000 in
theorem cX10_light_ok {l : Launch} {G : Gv} {L : List Nat} {S : MS} {a0 : Nat} {a1 : Int32} {a2 : Int32} {q : (Int32 × MS)} (ha0 : a0 < shX.1 ∧ shX.2.1 a0 = 10) (hf : fX10_light a0 a1 a2 S = some q) : Mt l yX10_light cX10_light 3 (some .boolean) (3) G shX L S [.ref (ad L a0), .int a1, .int a2] (some (.int q.1)) q.2 := by
  refine m_enter (lv := [(0, .ref (ad L a0)), (1, .int a1), (2, .int a2)]) (plainFor_of_name (by decide)) (Nat.le_of_ble_eq_true rfl) rfl ?_
  intro p e s m below meth c A ls C hW hl
  unfold fX10_light at hf
  refine lv_aload_n C.1 C.2.1 dX10_light_0 rfl (lv_at hl 0 rfl) ?_
  refine m_getr C hW ha0 flX10_16 (by decide) dX10_light_1 (fun hk7 => ?_)
  refine m_getr C hW hk7 flX10_141 (by decide) dX10_light_4 (fun hk8 => ?_)
  refine lv_iload_n C.1 C.2.1 dX10_light_7 rfl (lv_at hl 1 rfl) ?_
  obtain ⟨q9, h10, hf⟩ := bd hf
  refine m_callV (As := [.int a1]) (rest := []) C hW hk8 (cX7_has_ok  hk8 h10) mlX10_179 (by decide) rfl hl.1 rfl (Nat.le_of_ble_eq_true rfl) (Nat.le_of_ble_eq_true rfl) (Nat.le_of_ble_eq_true rfl) dX10_light_8 (fun H locs hW => ?_)
  refine lv_if_eq (tgt := 37) C.1 C.2.1 dX10_light_11 rfl (fun c11 => ?_) (fun c11 => ?_)
  · have hf := (if_pos c11).symm.trans hf
    refine lv_iconst C.1 C.2.1 dX10_light_37 ic_0 ?_
    cases hf
    exact m_zret C hW rfl dX10_light_38
  · have hf := (if_neg c11).symm.trans hf
    refine lv_aload_n C.1 C.2.1 dX10_light_14 rfl (lv_at hl 0 rfl) ?_
    refine m_getr C hW ha0 flX10_72 (by decide) dX10_light_15 (fun hk12 => ?_)
    refine m_geti C hW hk12 flX10_218 dX10_light_18 ?_
    refine lv_iload_n C.1 C.2.1 dX10_light_21 rfl (lv_at hl 1 rfl) ?_
    refine lv_ishr C.1 C.2.1 dX10_light_22 ?_
    refine lv_iconst C.1 C.2.1 dX10_light_23 ic_1 ?_
    refine lv_iand C.1 C.2.1 dX10_light_24 ?_
    refine lv_iload_n C.1 C.2.1 dX10_light_25 rfl (lv_at hl 2 rfl) ?_
    refine lv_if_eq (tgt := 33) C.1 C.2.1 dX10_light_26 rfl (fun c13 => ?_) (fun c13 => ?_)
    · have hf := (if_pos c13).symm.trans hf
      refine lv_iconst C.1 C.2.1 dX10_light_33 ic_0 ?_
      exact kX10_light_34  C a0 a1 (((gI S (gR S a0 9) 7) >>> (a1 &&& 31)) &&& (1 : Int32)) (0 : Int32) _ _ _ _ ha0 hW (lv_sub hl [0, 1] rfl) hf
    · have hf := (if_neg c13).symm.trans hf
      refine lv_iconst C.1 C.2.1 dX10_light_29 ic_1 ?_
      refine lv_goto (tgt := 34) C.1 C.2.1 dX10_light_30 rfl ?_
      exact kX10_light_34  C a0 a1 (((gI S (gR S a0 9) 7) >>> (a1 &&& 31)) &&& (1 : Int32)) (1 : Int32) _ _ _ _ ha0 hW (lv_sub hl [0, 1] rfl) hf

def fX10_again (a0 : Nat) (a1 : Int32) (S : MS) : Option (Int32 × MS) := (fX7_has  (gR S (gR S a0 1) 5) a1 S).bind fun q3 => (if q3 = (0 : Int32) then some ((0 : Int32), S) else (if ((gI S (gR S a0 9) 8) >>> (a1 &&& 31)) &&& (1 : Int32) = (0 : Int32) then some ((0 : Int32), S) else (fX2_note  (gR S a0 7) (gR S a0 9) S).bind fun q10 => some ((1 : Int32), pI q10 (gR q10 a0 9) 8 ((gI q10 (gR q10 a0 9) 8) ^^^ ((1 : Int32) <<< (a1 &&& 31))))))
set_option maxRecDepth 100000 in
theorem cX10_again_ok {l : Launch} {G : Gv} {L : List Nat} {S : MS} {a0 : Nat} {a1 : Int32} {q : (Int32 × MS)} (ha0 : a0 < shX.1 ∧ shX.2.1 a0 = 10) (hf : fX10_again a0 a1 S = some q) : Mt l yX10_again cX10_again 2 (some .boolean) (3) G shX L S [.ref (ad L a0), .int a1] (some (.int q.1)) q.2 := by
  refine m_enter (lv := [(0, .ref (ad L a0)), (1, .int a1)]) (plainFor_of_name (by decide)) (Nat.le_of_ble_eq_true rfl) rfl ?_
  intro p e s m below meth c A ls C hW hl
  unfold fX10_again at hf
  refine lv_aload_n C.1 C.2.1 dX10_again_0 rfl (lv_at hl 0 rfl) ?_
  refine m_getr C hW ha0 flX10_16 (by decide) dX10_again_1 (fun hk1 => ?_)
  refine m_getr C hW hk1 flX10_151 (by decide) dX10_again_4 (fun hk2 => ?_)
  refine lv_iload_n C.1 C.2.1 dX10_again_7 rfl (lv_at hl 1 rfl) ?_
  obtain ⟨q3, h4, hf⟩ := bd hf
  refine m_callV (As := [.int a1]) (rest := []) C hW hk2 (cX7_has_ok  hk2 h4) mlX10_179 (by decide) rfl hl.1 rfl (Nat.le_of_ble_eq_true rfl) (Nat.le_of_ble_eq_true rfl) (Nat.le_of_ble_eq_true rfl) dX10_again_8 (fun H locs hW => ?_)
  refine lv_if_eq (tgt := 28) C.1 C.2.1 dX10_again_11 rfl (fun c5 => ?_) (fun c5 => ?_)
  · have hf := (if_pos c5).symm.trans hf
    refine lv_iconst C.1 C.2.1 dX10_again_28 ic_0 ?_
    cases hf
    exact m_zret C hW rfl dX10_again_29
  · have hf := (if_neg c5).symm.trans hf
    refine lv_aload_n C.1 C.2.1 dX10_again_14 rfl (lv_at hl 0 rfl) ?_
    refine m_getr C hW ha0 flX10_72 (by decide) dX10_again_15 (fun hk6 => ?_)
    refine m_geti C hW hk6 flX10_195 dX10_again_18 ?_
    refine lv_iload_n C.1 C.2.1 dX10_again_21 rfl (lv_at hl 1 rfl) ?_
    refine lv_ishr C.1 C.2.1 dX10_again_22 ?_
    refine lv_iconst C.1 C.2.1 dX10_again_23 ic_1 ?_
    refine lv_iand C.1 C.2.1 dX10_again_24 ?_
    refine lv_if_ne (tgt := 30) C.1 C.2.1 dX10_again_25 rfl (fun c7 => ?_) (fun c7 => ?_)
    · have hf := (if_neg c7).symm.trans hf
      refine lv_aload_n C.1 C.2.1 dX10_again_30 rfl (lv_at hl 0 rfl) ?_
      refine m_getr C hW ha0 flX10_58 (by decide) dX10_again_31 (fun hk8 => ?_)
      refine lv_aload_n C.1 C.2.1 dX10_again_34 rfl (lv_at hl 0 rfl) ?_
      refine m_getr C hW ha0 flX10_72 (by decide) dX10_again_35 (fun hk9 => ?_)
      obtain ⟨q10, h11, hf⟩ := bd hf
      refine m_callV (As := [.ref (ad L (gR S a0 9))]) (rest := []) C hW hk8 (cX2_note_ok  hk8 hk9 h11) mlX10_248 (by decide) rfl hl.1 rfl (Nat.le_of_ble_eq_true rfl) (Nat.le_of_ble_eq_true rfl) (Nat.le_of_ble_eq_true rfl) dX10_again_38 (fun H locs hW => ?_)
      refine lv_aload_n C.1 C.2.1 dX10_again_41 rfl (lv_at hl 0 rfl) ?_
      refine m_getr C hW ha0 flX10_72 (by decide) dX10_again_42 (fun hk12 => ?_)
      refine lv_dup C.1 C.2.1 dX10_again_45 rfl ?_
      refine m_geti C hW hk12 flX10_195 dX10_again_46 ?_
      refine lv_iconst C.1 C.2.1 dX10_again_49 ic_1 ?_
      refine lv_iload_n C.1 C.2.1 dX10_again_50 rfl (lv_at hl 1 rfl) ?_
      refine lv_ishl C.1 C.2.1 dX10_again_51 ?_
      refine lv_ixor C.1 C.2.1 dX10_again_52 ?_
      refine m_puti C hW hk12 fpX10_195 dX10_again_53 (fun H locs hW => ?_)
      refine lv_iconst C.1 C.2.1 dX10_again_56 ic_1 ?_
      cases hf
      exact m_zret C hW rfl dX10_again_57
    · have hf := (if_pos c7).symm.trans hf
      refine lv_iconst C.1 C.2.1 dX10_again_28 ic_0 ?_
      cases hf
      exact m_zret C hW rfl dX10_again_29

def fX10_see (a0 : Nat) (a1 : Int32) (a2 : Int32) (a3 : Int32) (a4 : Int32) (a5 : Int32) (S : MS) : Option (Int32 × MS) := (if a1 < (1 : Int32) then some ((-1 : Int32), S) else (if (40 : Int32) < a1 then some ((-1 : Int32), S) else (if a2 < (0 : Int32) then some ((-1 : Int32), S) else (if (1 : Int32) < a2 then some ((-1 : Int32), S) else (fX8_isCell  (gR S a0 1) a3 a4 S).bind fun q6 => (if q6 = (0 : Int32) then some ((-1 : Int32), S) else (fX6_add  (gR S a0 8) a1 a2 a3 a4 a5 S).bind fun q10 => some (q10.1, q10.2))))))
set_option maxRecDepth 100000 in
theorem cX10_see_ok {l : Launch} {G : Gv} {L : List Nat} {S : MS} {a0 : Nat} {a1 : Int32} {a2 : Int32} {a3 : Int32} {a4 : Int32} {a5 : Int32} {q : (Int32 × MS)} (ha0 : a0 < shX.1 ∧ shX.2.1 a0 = 10) (hf : fX10_see a0 a1 a2 a3 a4 a5 S = some q) : Mt l yX10_see cX10_see 6 (some .int) (3) G shX L S [.ref (ad L a0), .int a1, .int a2, .int a3, .int a4, .int a5] (some (.int q.1)) q.2 := by
  refine m_enter (lv := [(0, .ref (ad L a0)), (1, .int a1), (2, .int a2), (3, .int a3), (4, .int a4), (5, .int a5)]) (plainFor_of_name (by decide)) (Nat.le_of_ble_eq_true rfl) rfl ?_
  intro p e s m below meth c A ls C hW hl
  unfold fX10_see at hf
  refine lv_iload_n C.1 C.2.1 dX10_see_0 rfl (lv_at hl 1 rfl) ?_
  refine lv_iconst C.1 C.2.1 dX10_see_1 ic_1 ?_
  refine lv_icmp_lt (tgt := 33) C.1 C.2.1 dX10_see_2 rfl (fun c1 => ?_) (fun c1 => ?_)
  · have hf := (if_pos c1).symm.trans hf
    refine lv_iconst C.1 C.2.1 dX10_see_33 ic_m1 ?_
    cases hf
    exact m_iret C hW dX10_see_34
  · have hf := (if_neg c1).symm.trans hf
    refine lv_iload_n C.1 C.2.1 dX10_see_5 rfl (lv_at hl 1 rfl) ?_
    refine lv_bipush C.1 C.2.1 dX10_see_6 bp_40 ?_
    refine lv_icmp_gt (tgt := 33) C.1 C.2.1 dX10_see_8 rfl (fun c2 => ?_) (fun c2 => ?_)
    · have hf := (if_pos c2).symm.trans hf
      refine lv_iconst C.1 C.2.1 dX10_see_33 ic_m1 ?_
      cases hf
      exact m_iret C hW dX10_see_34
    · have hf := (if_neg c2).symm.trans hf
      refine lv_iload_n C.1 C.2.1 dX10_see_11 rfl (lv_at hl 2 rfl) ?_
      refine lv_if_lt (tgt := 33) C.1 C.2.1 dX10_see_12 rfl (fun c3 => ?_) (fun c3 => ?_)
      · have hf := (if_pos c3).symm.trans hf
        refine lv_iconst C.1 C.2.1 dX10_see_33 ic_m1 ?_
        cases hf
        exact m_iret C hW dX10_see_34
      · have hf := (if_neg c3).symm.trans hf
        refine lv_iload_n C.1 C.2.1 dX10_see_15 rfl (lv_at hl 2 rfl) ?_
        refine lv_iconst C.1 C.2.1 dX10_see_16 ic_1 ?_
        refine lv_icmp_gt (tgt := 33) C.1 C.2.1 dX10_see_17 rfl (fun c4 => ?_) (fun c4 => ?_)
        · have hf := (if_pos c4).symm.trans hf
          refine lv_iconst C.1 C.2.1 dX10_see_33 ic_m1 ?_
          cases hf
          exact m_iret C hW dX10_see_34
        · have hf := (if_neg c4).symm.trans hf
          refine lv_aload_n C.1 C.2.1 dX10_see_20 rfl (lv_at hl 0 rfl) ?_
          refine m_getr C hW ha0 flX10_16 (by decide) dX10_see_21 (fun hk5 => ?_)
          refine lv_iload_n C.1 C.2.1 dX10_see_24 rfl (lv_at hl 3 rfl) ?_
          refine lv_iload C.1 C.2.1 dX10_see_25 (lv_at hl 4 rfl) ?_
          obtain ⟨q6, h7, hf⟩ := bd hf
          refine m_callV (As := [.int a3, .int a4]) (rest := []) C hW hk5 (cX8_isCell_ok  hk5 h7) mlX10_221 (by decide) rfl hl.1 rfl (Nat.le_of_ble_eq_true rfl) (Nat.le_of_ble_eq_true rfl) (Nat.le_of_ble_eq_true rfl) dX10_see_27 (fun H locs hW => ?_)
          refine lv_if_ne (tgt := 35) C.1 C.2.1 dX10_see_30 rfl (fun c8 => ?_) (fun c8 => ?_)
          · have hf := (if_neg c8).symm.trans hf
            refine lv_aload_n C.1 C.2.1 dX10_see_35 rfl (lv_at hl 0 rfl) ?_
            refine m_getr C hW ha0 flX10_65 (by decide) dX10_see_36 (fun hk9 => ?_)
            refine lv_iload_n C.1 C.2.1 dX10_see_39 rfl (lv_at hl 1 rfl) ?_
            refine lv_iload_n C.1 C.2.1 dX10_see_40 rfl (lv_at hl 2 rfl) ?_
            refine lv_iload_n C.1 C.2.1 dX10_see_41 rfl (lv_at hl 3 rfl) ?_
            refine lv_iload C.1 C.2.1 dX10_see_42 (lv_at hl 4 rfl) ?_
            refine lv_iload C.1 C.2.1 dX10_see_44 (lv_at hl 5 rfl) ?_
            obtain ⟨q10, h11, hf⟩ := bd hf
            refine m_callV (As := [.int a1, .int a2, .int a3, .int a4, .int a5]) (rest := []) C hW hk9 (cX6_add_ok  hk9 h11) mlX10_334 (by decide) rfl hl.1 rfl (Nat.le_of_ble_eq_true rfl) (Nat.le_of_ble_eq_true rfl) (Nat.le_of_ble_eq_true rfl) dX10_see_46 (fun H locs hW => ?_)
            cases hf
            exact m_iret C hW dX10_see_49
          · have hf := (if_pos c8).symm.trans hf
            refine lv_iconst C.1 C.2.1 dX10_see_33 ic_m1 ?_
            cases hf
            exact m_iret C hW dX10_see_34

def fX10_known (a0 : Nat) (a1 : Int32) (S : MS) : Option (Int32 × MS) := (if a1 < (-1 : Int32) then some ((0 : Int32), S) else (fX6_size  (gR S a0 8) S).bind fun q3 => (if a1 ≤ q3 then some ((1 : Int32), pI S (gR S a0 8) 2 a1) else some ((0 : Int32), S)))
set_option maxRecDepth 100000 in
theorem cX10_known_ok {l : Launch} {G : Gv} {L : List Nat} {S : MS} {a0 : Nat} {a1 : Int32} {q : (Int32 × MS)} (ha0 : a0 < shX.1 ∧ shX.2.1 a0 = 10) (hf : fX10_known a0 a1 S = some q) : Mt l yX10_known cX10_known 2 (some .boolean) (3) G shX L S [.ref (ad L a0), .int a1] (some (.int q.1)) q.2 := by
  refine m_enter (lv := [(0, .ref (ad L a0)), (1, .int a1)]) (plainFor_of_name (by decide)) (Nat.le_of_ble_eq_true rfl) rfl ?_
  intro p e s m below meth c A ls C hW hl
  unfold fX10_known at hf
  refine lv_iload_n C.1 C.2.1 dX10_known_0 rfl (lv_at hl 1 rfl) ?_
  refine lv_iconst C.1 C.2.1 dX10_known_1 ic_m1 ?_
  refine lv_icmp_lt (tgt := 16) C.1 C.2.1 dX10_known_2 rfl (fun c1 => ?_) (fun c1 => ?_)
  · have hf := (if_pos c1).symm.trans hf
    refine lv_iconst C.1 C.2.1 dX10_known_16 ic_0 ?_
    cases hf
    exact m_zret C hW rfl dX10_known_17
  · have hf := (if_neg c1).symm.trans hf
    refine lv_iload_n C.1 C.2.1 dX10_known_5 rfl (lv_at hl 1 rfl) ?_
    refine lv_aload_n C.1 C.2.1 dX10_known_6 rfl (lv_at hl 0 rfl) ?_
    refine m_getr C hW ha0 flX10_65 (by decide) dX10_known_7 (fun hk2 => ?_)
    obtain ⟨q3, h4, hf⟩ := bd hf
    refine m_callV (As := []) (rest := [.int a1]) C hW hk2 (cX6_size_ok  hk2 h4) mlX10_341 (by decide) rfl hl.1 rfl (Nat.le_of_ble_eq_true rfl) (Nat.le_of_ble_eq_true rfl) (Nat.le_of_ble_eq_true rfl) dX10_known_10 (fun H locs hW => ?_)
    refine lv_icmp_le (tgt := 18) C.1 C.2.1 dX10_known_13 rfl (fun c5 => ?_) (fun c5 => ?_)
    · have hf := (if_pos c5).symm.trans hf
      refine lv_aload_n C.1 C.2.1 dX10_known_18 rfl (lv_at hl 0 rfl) ?_
      refine m_getr C hW ha0 flX10_65 (by decide) dX10_known_19 (fun hk6 => ?_)
      refine lv_iload_n C.1 C.2.1 dX10_known_22 rfl (lv_at hl 1 rfl) ?_
      refine m_puti C hW hk6 fpX10_342 dX10_known_23 (fun H locs hW => ?_)
      refine lv_iconst C.1 C.2.1 dX10_known_26 ic_1 ?_
      cases hf
      exact m_zret C hW rfl dX10_known_27
    · have hf := (if_neg c5).symm.trans hf
      refine lv_iconst C.1 C.2.1 dX10_known_16 ic_0 ?_
      cases hf
      exact m_zret C hW rfl dX10_known_17

def fX10_count (a0 : Nat) (a1 : Int32) (S : MS) : Option Int32 := (if a1 = (0 : Int32) then (fX7_size  (gR S (gR S a0 1) 3) S).bind fun q4 => some q4 else if a1 = (1 : Int32) then (fX7_size  (gR S (gR S a0 1) 5) S).bind fun q9 => some q9 else if a1 = (2 : Int32) then (fX7_size  (gR S (gR S a0 1) 6) S).bind fun q14 => some q14 else if a1 = (3 : Int32) then some (gI S (gR S a0 1) 8) else if a1 = (4 : Int32) then some (gI S (gR S a0 1) 9) else if a1 = (5 : Int32) then some (gI S (gR S a0 1) 15) else if a1 = (6 : Int32) then some (gI S (gR S a0 9) 3) else if a1 = (7 : Int32) then (fJ6_bitCount_0f7a4  (gI S (gR S a0 9) 8) S).bind fun q26 => some q26 else if a1 = (8 : Int32) then (fX8_worthOf  (gR S a0 1) (gI S (gR S a0 9) 8) S).bind fun q31 => some q31 else if a1 = (9 : Int32) then some (gI S (gR S a0 9) 9) else if a1 = (10 : Int32) then some (gI S (gR S a0 9) 10) else if a1 = (11 : Int32) then (fJ6_bitCount_0f7a4  (gI S (gR S a0 9) 7) S).bind fun q39 => some q39 else if a1 = (12 : Int32) then (fX6_size  (gR S a0 8) S).bind fun q43 => some q43 else if a1 = (13 : Int32) then (fX6_reach  (gR S a0 8) S).bind fun q47 => some q47 else if a1 = (14 : Int32) then some (gI S (gR S a0 7) 1) else some (-1 : Int32))
set_option maxRecDepth 100000 in
theorem cX10_count_ok {l : Launch} {G : Gv} {L : List Nat} {S : MS} {a0 : Nat} {a1 : Int32} {q : Int32} (ha0 : a0 < shX.1 ∧ shX.2.1 a0 = 10) (hf : fX10_count a0 a1 S = some q) : Mt l yX10_count cX10_count 2 (some .int) (3) G shX L S [.ref (ad L a0), .int a1] (some (.int q)) S := by
  refine m_enter (lv := [(0, .ref (ad L a0)), (1, .int a1)]) (plainFor_of_name (by decide)) (Nat.le_of_ble_eq_true rfl) rfl ?_
  intro p e s m below meth c A ls C hW hl
  unfold fX10_count at hf
  refine lv_iload_n C.1 C.2.1 dX10_count_0 rfl (lv_at hl 1 rfl) ?_
  by_cases c1 : a1 = (0 : Int32)
  · have hf := (if_pos c1).symm.trans hf
    refine lv_tableIn (tgt := 76) C.1 C.2.1 dX10_count_1 (by rw [c1]; decide) (by rw [c1]; decide) (by rw [c1]; rfl) rfl ?_
    refine lv_aload_n C.1 C.2.1 dX10_count_76 rfl (lv_at hl 0 rfl) ?_
    refine m_getr C hW ha0 flX10_16 (by decide) dX10_count_77 (fun hk2 => ?_)
    refine m_getr C hW hk2 flX10_141 (by decide) dX10_count_80 (fun hk3 => ?_)
    obtain ⟨q4, h5, hf⟩ := bd hf
    refine m_callV (As := []) (rest := []) C hW hk3 (cX7_size_ok  hk3 h5) mlX10_307 (by decide) rfl hl.1 rfl (Nat.le_of_ble_eq_true rfl) (Nat.le_of_ble_eq_true rfl) (Nat.le_of_ble_eq_true rfl) dX10_count_83 (fun H locs hW => ?_)
    cases hf
    exact m_iret C hW dX10_count_86
  have hf := (if_neg c1).symm.trans hf
  by_cases c6 : a1 = (1 : Int32)
  · have hf := (if_pos c6).symm.trans hf
    refine lv_tableIn (tgt := 87) C.1 C.2.1 dX10_count_1 (by rw [c6]; decide) (by rw [c6]; decide) (by rw [c6]; rfl) rfl ?_
    refine lv_aload_n C.1 C.2.1 dX10_count_87 rfl (lv_at hl 0 rfl) ?_
    refine m_getr C hW ha0 flX10_16 (by decide) dX10_count_88 (fun hk7 => ?_)
    refine m_getr C hW hk7 flX10_151 (by decide) dX10_count_91 (fun hk8 => ?_)
    obtain ⟨q9, h10, hf⟩ := bd hf
    refine m_callV (As := []) (rest := []) C hW hk8 (cX7_size_ok  hk8 h10) mlX10_307 (by decide) rfl hl.1 rfl (Nat.le_of_ble_eq_true rfl) (Nat.le_of_ble_eq_true rfl) (Nat.le_of_ble_eq_true rfl) dX10_count_94 (fun H locs hW => ?_)
    cases hf
    exact m_iret C hW dX10_count_97
  have hf := (if_neg c6).symm.trans hf
  by_cases c11 : a1 = (2 : Int32)
  · have hf := (if_pos c11).symm.trans hf
    refine lv_tableIn (tgt := 98) C.1 C.2.1 dX10_count_1 (by rw [c11]; decide) (by rw [c11]; decide) (by rw [c11]; rfl) rfl ?_
    refine lv_aload_n C.1 C.2.1 dX10_count_98 rfl (lv_at hl 0 rfl) ?_
    refine m_getr C hW ha0 flX10_16 (by decide) dX10_count_99 (fun hk12 => ?_)
    refine m_getr C hW hk12 flX10_154 (by decide) dX10_count_102 (fun hk13 => ?_)
    obtain ⟨q14, h15, hf⟩ := bd hf
    refine m_callV (As := []) (rest := []) C hW hk13 (cX7_size_ok  hk13 h15) mlX10_307 (by decide) rfl hl.1 rfl (Nat.le_of_ble_eq_true rfl) (Nat.le_of_ble_eq_true rfl) (Nat.le_of_ble_eq_true rfl) dX10_count_105 (fun H locs hW => ?_)
    cases hf
    exact m_iret C hW dX10_count_108
  have hf := (if_neg c11).symm.trans hf
  by_cases c16 : a1 = (3 : Int32)
  · have hf := (if_pos c16).symm.trans hf
    refine lv_tableIn (tgt := 109) C.1 C.2.1 dX10_count_1 (by rw [c16]; decide) (by rw [c16]; decide) (by rw [c16]; rfl) rfl ?_
    refine lv_aload_n C.1 C.2.1 dX10_count_109 rfl (lv_at hl 0 rfl) ?_
    refine m_getr C hW ha0 flX10_16 (by decide) dX10_count_110 (fun hk17 => ?_)
    refine m_geti C hW hk17 flX10_293 dX10_count_113 ?_
    cases hf
    exact m_iret C hW dX10_count_116
  have hf := (if_neg c16).symm.trans hf
  by_cases c18 : a1 = (4 : Int32)
  · have hf := (if_pos c18).symm.trans hf
    refine lv_tableIn (tgt := 117) C.1 C.2.1 dX10_count_1 (by rw [c18]; decide) (by rw [c18]; decide) (by rw [c18]; rfl) rfl ?_
    refine lv_aload_n C.1 C.2.1 dX10_count_117 rfl (lv_at hl 0 rfl) ?_
    refine m_getr C hW ha0 flX10_16 (by decide) dX10_count_118 (fun hk19 => ?_)
    refine m_geti C hW hk19 flX10_296 dX10_count_121 ?_
    cases hf
    exact m_iret C hW dX10_count_124
  have hf := (if_neg c18).symm.trans hf
  by_cases c20 : a1 = (5 : Int32)
  · have hf := (if_pos c20).symm.trans hf
    refine lv_tableIn (tgt := 125) C.1 C.2.1 dX10_count_1 (by rw [c20]; decide) (by rw [c20]; decide) (by rw [c20]; rfl) rfl ?_
    refine lv_aload_n C.1 C.2.1 dX10_count_125 rfl (lv_at hl 0 rfl) ?_
    refine m_getr C hW ha0 flX10_16 (by decide) dX10_count_126 (fun hk21 => ?_)
    refine m_geti C hW hk21 flX10_365 dX10_count_129 ?_
    cases hf
    exact m_iret C hW dX10_count_132
  have hf := (if_neg c20).symm.trans hf
  by_cases c22 : a1 = (6 : Int32)
  · have hf := (if_pos c22).symm.trans hf
    refine lv_tableIn (tgt := 133) C.1 C.2.1 dX10_count_1 (by rw [c22]; decide) (by rw [c22]; decide) (by rw [c22]; rfl) rfl ?_
    refine lv_aload_n C.1 C.2.1 dX10_count_133 rfl (lv_at hl 0 rfl) ?_
    refine m_getr C hW ha0 flX10_72 (by decide) dX10_count_134 (fun hk23 => ?_)
    refine m_geti C hW hk23 flX10_258 dX10_count_137 ?_
    cases hf
    exact m_iret C hW dX10_count_140
  have hf := (if_neg c22).symm.trans hf
  by_cases c24 : a1 = (7 : Int32)
  · have hf := (if_pos c24).symm.trans hf
    refine lv_tableIn (tgt := 141) C.1 C.2.1 dX10_count_1 (by rw [c24]; decide) (by rw [c24]; decide) (by rw [c24]; rfl) rfl ?_
    refine lv_aload_n C.1 C.2.1 dX10_count_141 rfl (lv_at hl 0 rfl) ?_
    refine m_getr C hW ha0 flX10_72 (by decide) dX10_count_142 (fun hk25 => ?_)
    refine m_geti C hW hk25 flX10_195 dX10_count_145 ?_
    obtain ⟨q26, h27, hf⟩ := bd hf
    refine m_callS (As := [.int (gI S (gR S a0 9) 8)]) (rest := []) C hW (cJ6_bitCount_0f7a4_ok   h27) mlX10_267 rfl hl.1 rfl (Nat.le_of_ble_eq_true rfl) (Nat.le_of_ble_eq_true rfl) (Nat.le_of_ble_eq_true rfl) dX10_count_148 (fun H locs hW => ?_)
    cases hf
    exact m_iret C hW dX10_count_151
  have hf := (if_neg c24).symm.trans hf
  by_cases c28 : a1 = (8 : Int32)
  · have hf := (if_pos c28).symm.trans hf
    refine lv_tableIn (tgt := 152) C.1 C.2.1 dX10_count_1 (by rw [c28]; decide) (by rw [c28]; decide) (by rw [c28]; rfl) rfl ?_
    refine lv_aload_n C.1 C.2.1 dX10_count_152 rfl (lv_at hl 0 rfl) ?_
    refine m_getr C hW ha0 flX10_16 (by decide) dX10_count_153 (fun hk29 => ?_)
    refine lv_aload_n C.1 C.2.1 dX10_count_156 rfl (lv_at hl 0 rfl) ?_
    refine m_getr C hW ha0 flX10_72 (by decide) dX10_count_157 (fun hk30 => ?_)
    refine m_geti C hW hk30 flX10_195 dX10_count_160 ?_
    obtain ⟨q31, h32, hf⟩ := bd hf
    refine m_callV (As := [.int (gI S (gR S a0 9) 8)]) (rest := []) C hW hk29 (cX8_worthOf_ok  hk29 h32) mlX10_272 (by decide) rfl hl.1 rfl (Nat.le_of_ble_eq_true rfl) (Nat.le_of_ble_eq_true rfl) (Nat.le_of_ble_eq_true rfl) dX10_count_163 (fun H locs hW => ?_)
    cases hf
    exact m_iret C hW dX10_count_166
  have hf := (if_neg c28).symm.trans hf
  by_cases c33 : a1 = (9 : Int32)
  · have hf := (if_pos c33).symm.trans hf
    refine lv_tableIn (tgt := 167) C.1 C.2.1 dX10_count_1 (by rw [c33]; decide) (by rw [c33]; decide) (by rw [c33]; rfl) rfl ?_
    refine lv_aload_n C.1 C.2.1 dX10_count_167 rfl (lv_at hl 0 rfl) ?_
    refine m_getr C hW ha0 flX10_72 (by decide) dX10_count_168 (fun hk34 => ?_)
    refine m_geti C hW hk34 flX10_275 dX10_count_171 ?_
    cases hf
    exact m_iret C hW dX10_count_174
  have hf := (if_neg c33).symm.trans hf
  by_cases c35 : a1 = (10 : Int32)
  · have hf := (if_pos c35).symm.trans hf
    refine lv_tableIn (tgt := 175) C.1 C.2.1 dX10_count_1 (by rw [c35]; decide) (by rw [c35]; decide) (by rw [c35]; rfl) rfl ?_
    refine lv_aload_n C.1 C.2.1 dX10_count_175 rfl (lv_at hl 0 rfl) ?_
    refine m_getr C hW ha0 flX10_72 (by decide) dX10_count_176 (fun hk36 => ?_)
    refine m_geti C hW hk36 flX10_282 dX10_count_179 ?_
    cases hf
    exact m_iret C hW dX10_count_182
  have hf := (if_neg c35).symm.trans hf
  by_cases c37 : a1 = (11 : Int32)
  · have hf := (if_pos c37).symm.trans hf
    refine lv_tableIn (tgt := 183) C.1 C.2.1 dX10_count_1 (by rw [c37]; decide) (by rw [c37]; decide) (by rw [c37]; rfl) rfl ?_
    refine lv_aload_n C.1 C.2.1 dX10_count_183 rfl (lv_at hl 0 rfl) ?_
    refine m_getr C hW ha0 flX10_72 (by decide) dX10_count_184 (fun hk38 => ?_)
    refine m_geti C hW hk38 flX10_218 dX10_count_187 ?_
    obtain ⟨q39, h40, hf⟩ := bd hf
    refine m_callS (As := [.int (gI S (gR S a0 9) 7)]) (rest := []) C hW (cJ6_bitCount_0f7a4_ok   h40) mlX10_267 rfl hl.1 rfl (Nat.le_of_ble_eq_true rfl) (Nat.le_of_ble_eq_true rfl) (Nat.le_of_ble_eq_true rfl) dX10_count_190 (fun H locs hW => ?_)
    cases hf
    exact m_iret C hW dX10_count_193
  have hf := (if_neg c37).symm.trans hf
  by_cases c41 : a1 = (12 : Int32)
  · have hf := (if_pos c41).symm.trans hf
    refine lv_tableIn (tgt := 194) C.1 C.2.1 dX10_count_1 (by rw [c41]; decide) (by rw [c41]; decide) (by rw [c41]; rfl) rfl ?_
    refine lv_aload_n C.1 C.2.1 dX10_count_194 rfl (lv_at hl 0 rfl) ?_
    refine m_getr C hW ha0 flX10_65 (by decide) dX10_count_195 (fun hk42 => ?_)
    obtain ⟨q43, h44, hf⟩ := bd hf
    refine m_callV (As := []) (rest := []) C hW hk42 (cX6_size_ok  hk42 h44) mlX10_341 (by decide) rfl hl.1 rfl (Nat.le_of_ble_eq_true rfl) (Nat.le_of_ble_eq_true rfl) (Nat.le_of_ble_eq_true rfl) dX10_count_198 (fun H locs hW => ?_)
    cases hf
    exact m_iret C hW dX10_count_201
  have hf := (if_neg c41).symm.trans hf
  by_cases c45 : a1 = (13 : Int32)
  · have hf := (if_pos c45).symm.trans hf
    refine lv_tableIn (tgt := 202) C.1 C.2.1 dX10_count_1 (by rw [c45]; decide) (by rw [c45]; decide) (by rw [c45]; rfl) rfl ?_
    refine lv_aload_n C.1 C.2.1 dX10_count_202 rfl (lv_at hl 0 rfl) ?_
    refine m_getr C hW ha0 flX10_65 (by decide) dX10_count_203 (fun hk46 => ?_)
    obtain ⟨q47, h48, hf⟩ := bd hf
    refine m_callV (As := []) (rest := []) C hW hk46 (cX6_reach_ok  hk46 h48) mlX10_368 (by decide) rfl hl.1 rfl (Nat.le_of_ble_eq_true rfl) (Nat.le_of_ble_eq_true rfl) (Nat.le_of_ble_eq_true rfl) dX10_count_206 (fun H locs hW => ?_)
    cases hf
    exact m_iret C hW dX10_count_209
  have hf := (if_neg c45).symm.trans hf
  by_cases c49 : a1 = (14 : Int32)
  · have hf := (if_pos c49).symm.trans hf
    refine lv_tableIn (tgt := 210) C.1 C.2.1 dX10_count_1 (by rw [c49]; decide) (by rw [c49]; decide) (by rw [c49]; rfl) rfl ?_
    refine lv_aload_n C.1 C.2.1 dX10_count_210 rfl (lv_at hl 0 rfl) ?_
    refine m_getr C hW ha0 flX10_58 (by decide) dX10_count_211 (fun hk50 => ?_)
    refine m_geti C hW hk50 flX10_371 dX10_count_214 ?_
    cases hf
    exact m_iret C hW dX10_count_217
  have hf := (if_neg c49).symm.trans hf
  by_cases ho51 : a1.toInt < 0 ∨ 14 < a1.toInt
  · refine lv_tableOut (tgt := 218) C.1 C.2.1 dX10_count_1 ho51 rfl ?_
    refine lv_iconst C.1 C.2.1 dX10_count_218 ic_m1 ?_
    cases hf
    exact m_iret C hW dX10_count_219
  · exfalso
    have := tn_e c1 (0) (by decide)
    have := tn_e c6 (1) (by decide)
    have := tn_e c11 (2) (by decide)
    have := tn_e c16 (3) (by decide)
    have := tn_e c18 (4) (by decide)
    have := tn_e c20 (5) (by decide)
    have := tn_e c22 (6) (by decide)
    have := tn_e c24 (7) (by decide)
    have := tn_e c28 (8) (by decide)
    have := tn_e c33 (9) (by decide)
    have := tn_e c35 (10) (by decide)
    have := tn_e c37 (11) (by decide)
    have := tn_e c41 (12) (by decide)
    have := tn_e c45 (13) (by decide)
    have := tn_e c49 (14) (by decide)
    omega

def fX0_nearestLamp_91 (K7 : Nat → Nat → Int32 → Int32 → Int32 → MS → Option Int32) (x0 : Nat) (x1 : Nat) (x2 : Int32) (x3 : Int32) (x4 : Int32) (S : MS) : Option Int32 := K7 x0 x1 x2 x3 (x4 + (1 : Int32)) S
def fX0_nearestLamp_85 (K7 : Nat → Nat → Int32 → Int32 → Int32 → MS → Option Int32) (x0 : Nat) (x1 : Nat) (x4 : Int32) (x5 : Int32) (S : MS) : Option Int32 := fX0_nearestLamp_91 K7 x0 x1 x4 x5 x4 S
def fX0_nearestLamp_67 (K7 : Nat → Nat → Int32 → Int32 → Int32 → MS → Option Int32) (x0 : Nat) (x1 : Nat) (x2 : Int32) (x3 : Int32) (x4 : Int32) (x5 : Int32) (y0 : Int32) (S : MS) : Option Int32 := (if y0 = (0 : Int32) then fX0_nearestLamp_91 K7 x0 x1 x2 x3 x4 S else (if x2 = (-1 : Int32) then fX0_nearestLamp_85 K7 x0 x1 x4 x5 S else (if x3 ≤ x5 then fX0_nearestLamp_91 K7 x0 x1 x2 x3 x4 S else fX0_nearestLamp_85 K7 x0 x1 x4 x5 S)))
def fX0_nearestLamp_66 (K7 : Nat → Nat → Int32 → Int32 → Int32 → MS → Option Int32) (x0 : Nat) (x1 : Nat) (x2 : Int32) (x3 : Int32) (x4 : Int32) (x5 : Int32) (S : MS) : Option Int32 := fX0_nearestLamp_67 K7 x0 x1 x2 x3 x4 x5 (0 : Int32) S
def fX0_nearestLamp_7  : Nat → Nat → Nat → Int32 → Int32 → Int32 → MS → Option Int32
  | 0, _, _, _, _, _, _ => none
  | n + 1, x0, x1, x2, x3, x4, S => (fX7_size  (gR S (gR S x0 1) 3) S).bind fun q6 => (if q6 ≤ x4 then some x2 else (fX0_distance  x0 x1 x4 S).bind fun q9 => (if ((gI S x1 7) >>> (x4 &&& 31)) &&& (1 : Int32) = (1 : Int32) then (fX7_get  (gR S (gR S x0 1) 3) x4 (3 : Int32) S).bind fun q14 => (if q14 < q9 then fX0_nearestLamp_66 (fX0_nearestLamp_7  n) x0 x1 x2 x3 x4 q9 S else fX0_nearestLamp_67 (fX0_nearestLamp_7  n) x0 x1 x2 x3 x4 q9 (1 : Int32) S) else fX0_nearestLamp_66 (fX0_nearestLamp_7  n) x0 x1 x2 x3 x4 q9 S))
def fX0_nearestLamp (a0 : Nat) (a1 : Nat) (S : MS) : Option Int32 := fX0_nearestLamp_7  1000 a0 a1 (-1 : Int32) (0 : Int32) (0 : Int32) S
set_option maxRecDepth 100000 in
theorem kX0_nearestLamp_91 {p : Program} {l : Launch} {e : Env} {s : State} {m : MethodId} {av : Array Value} {below : List Frame} {meth : Method} {c : Code} {A : Nat → Prop} {G : Gv} {L : List Nat} {S : MS} {q : Int32} {K7 : Nat → Nat → Int32 → Int32 → Int32 → MS → Option Int32} (hK7 : ∀ (x0 : Nat) (x1 : Nat) (x2 : Int32) (x3 : Int32) (x4 : Int32) (H : Heap) (locs : List Loc) (ls : Array Slot), (x0 < shX.1 ∧ shX.2.1 x0 = 0) → (x1 < shX.1 ∧ shX.2.1 x1 = 9) → mW G shX L S A s H locs → lv_has ls 7 [(0, .ref (ad L x0)), (1, .ref (ad L x1)), (2, .int x2), (3, .int x3), (4, .int x4)] → K7 x0 x1 x2 x3 x4 S = some q → W p l e (rmd (3)) s m av below meth c H locs 0 0 (MQ below (mQ G shX L S (some (.int q)) A) av s 0 0 A) (F0 m 7 ls [])) (C : mC p s m av meth c cX0_nearestLamp RX0 7 (some .int)) : ∀ (x0 : Nat) (x1 : Nat) (x2 : Int32) (x3 : Int32) (x4 : Int32) (H : Heap) (locs : List Loc) (ls : Array Slot), (x0 < shX.1 ∧ shX.2.1 x0 = 0) → (x1 < shX.1 ∧ shX.2.1 x1 = 9) → mW G shX L S A s H locs → lv_has ls 7 [(0, .ref (ad L x0)), (1, .ref (ad L x1)), (2, .int x2), (3, .int x3), (4, .int x4)] → fX0_nearestLamp_91 K7 x0 x1 x2 x3 x4 S = some q → W p l e (rmd (3)) s m av below meth c H locs 0 0 (MQ below (mQ G shX L S (some (.int q)) A) av s 0 0 A) (F0 m 91 ls []) := by
  intro x0 x1 x2 x3 x4 H locs ls hx0 hx1 hW hl hf
  unfold fX0_nearestLamp_91 at hf
  refine lv_iinc (v := x4 + (1 : Int32)) (lv' := [(4, .int (x4 + (1 : Int32))), (0, .ref (ad L x0)), (1, .ref (ad L x1)), (2, .int x2), (3, .int x3)]) C.1 C.2.1 dX0_nearestLamp_91 hl (k := 4) rfl (congrArg (fun z => x4 + z) ic_1) (by decide) rfl (fun ls hl => ?_)
  refine lv_goto (tgt := 7) C.1 C.2.1 dX0_nearestLamp_94 rfl ?_
  exact hK7 x0 x1 x2 x3 (x4 + (1 : Int32)) _ _ _ hx0 hx1 hW (lv_sub hl [1, 2, 3, 4, 0] rfl) hf

set_option maxRecDepth 100000 in
theorem kX0_nearestLamp_85 {p : Program} {l : Launch} {e : Env} {s : State} {m : MethodId} {av : Array Value} {below : List Frame} {meth : Method} {c : Code} {A : Nat → Prop} {G : Gv} {L : List Nat} {S : MS} {q : Int32} {K7 : Nat → Nat → Int32 → Int32 → Int32 → MS → Option Int32} (hK7 : ∀ (x0 : Nat) (x1 : Nat) (x2 : Int32) (x3 : Int32) (x4 : Int32) (H : Heap) (locs : List Loc) (ls : Array Slot), (x0 < shX.1 ∧ shX.2.1 x0 = 0) → (x1 < shX.1 ∧ shX.2.1 x1 = 9) → mW G shX L S A s H locs → lv_has ls 7 [(0, .ref (ad L x0)), (1, .ref (ad L x1)), (2, .int x2), (3, .int x3), (4, .int x4)] → K7 x0 x1 x2 x3 x4 S = some q → W p l e (rmd (3)) s m av below meth c H locs 0 0 (MQ below (mQ G shX L S (some (.int q)) A) av s 0 0 A) (F0 m 7 ls [])) (C : mC p s m av meth c cX0_nearestLamp RX0 7 (some .int)) : ∀ (x0 : Nat) (x1 : Nat) (x4 : Int32) (x5 : Int32) (H : Heap) (locs : List Loc) (ls : Array Slot), (x0 < shX.1 ∧ shX.2.1 x0 = 0) → (x1 < shX.1 ∧ shX.2.1 x1 = 9) → mW G shX L S A s H locs → lv_has ls 7 [(0, .ref (ad L x0)), (1, .ref (ad L x1)), (4, .int x4), (5, .int x5)] → fX0_nearestLamp_85 K7 x0 x1 x4 x5 S = some q → W p l e (rmd (3)) s m av below meth c H locs 0 0 (MQ below (mQ G shX L S (some (.int q)) A) av s 0 0 A) (F0 m 85 ls []) := by
  intro x0 x1 x4 x5 H locs ls hx0 hx1 hW hl hf
  unfold fX0_nearestLamp_85 at hf
  refine lv_iload C.1 C.2.1 dX0_nearestLamp_85 (lv_at hl 2 rfl) ?_
  refine lv_istore_n (lv' := [(2, .int x4), (0, .ref (ad L x0)), (1, .ref (ad L x1)), (4, .int x4), (5, .int x5)]) C.1 C.2.1 dX0_nearestLamp_87 rfl hl (by decide) rfl (fun ls hl => ?_)
  refine lv_iload C.1 C.2.1 dX0_nearestLamp_88 (lv_at hl 4 rfl) ?_
  refine lv_istore_n (lv' := [(3, .int x5), (2, .int x4), (0, .ref (ad L x0)), (1, .ref (ad L x1)), (4, .int x4), (5, .int x5)]) C.1 C.2.1 dX0_nearestLamp_90 rfl hl (by decide) rfl (fun ls hl => ?_)
  exact kX0_nearestLamp_91 hK7 C x0 x1 x4 x5 x4 _ _ _ hx0 hx1 hW (lv_sub hl [2, 3, 1, 0, 4] rfl) hf

set_option maxRecDepth 100000 in
theorem kX0_nearestLamp_67 {p : Program} {l : Launch} {e : Env} {s : State} {m : MethodId} {av : Array Value} {below : List Frame} {meth : Method} {c : Code} {A : Nat → Prop} {G : Gv} {L : List Nat} {S : MS} {q : Int32} {K7 : Nat → Nat → Int32 → Int32 → Int32 → MS → Option Int32} (hK7 : ∀ (x0 : Nat) (x1 : Nat) (x2 : Int32) (x3 : Int32) (x4 : Int32) (H : Heap) (locs : List Loc) (ls : Array Slot), (x0 < shX.1 ∧ shX.2.1 x0 = 0) → (x1 < shX.1 ∧ shX.2.1 x1 = 9) → mW G shX L S A s H locs → lv_has ls 7 [(0, .ref (ad L x0)), (1, .ref (ad L x1)), (2, .int x2), (3, .int x3), (4, .int x4)] → K7 x0 x1 x2 x3 x4 S = some q → W p l e (rmd (3)) s m av below meth c H locs 0 0 (MQ below (mQ G shX L S (some (.int q)) A) av s 0 0 A) (F0 m 7 ls [])) (C : mC p s m av meth c cX0_nearestLamp RX0 7 (some .int)) : ∀ (x0 : Nat) (x1 : Nat) (x2 : Int32) (x3 : Int32) (x4 : Int32) (x5 : Int32) (y0 : Int32) (H : Heap) (locs : List Loc) (ls : Array Slot), (x0 < shX.1 ∧ shX.2.1 x0 = 0) → (x1 < shX.1 ∧ shX.2.1 x1 = 9) → mW G shX L S A s H locs → lv_has ls 7 [(0, .ref (ad L x0)), (1, .ref (ad L x1)), (2, .int x2), (3, .int x3), (4, .int x4), (5, .int x5)] → fX0_nearestLamp_67 K7 x0 x1 x2 x3 x4 x5 y0 S = some q → W p l e (rmd (3)) s m av below meth c H locs 0 0 (MQ below (mQ G shX L S (some (.int q)) A) av s 0 0 A) (F0 m 67 ls [.int y0]) := by
  intro x0 x1 x2 x3 x4 x5 y0 H locs ls hx0 hx1 hW hl hf
  unfold fX0_nearestLamp_67 at hf
  refine lv_istore (lv' := [(6, .int y0), (0, .ref (ad L x0)), (1, .ref (ad L x1)), (2, .int x2), (3, .int x3), (4, .int x4), (5, .int x5)]) C.1 C.2.1 dX0_nearestLamp_67 hl (by decide) rfl (fun ls hl => ?_)
  refine lv_iload C.1 C.2.1 dX0_nearestLamp_69 (lv_at hl 0 rfl) ?_
  refine lv_if_eq (tgt := 91) C.1 C.2.1 dX0_nearestLamp_71 rfl (fun c1 => ?_) (fun c1 => ?_)
  · have hf := (if_pos c1).symm.trans hf
    exact kX0_nearestLamp_91 hK7 C x0 x1 x2 x3 x4 _ _ _ hx0 hx1 hW (lv_sub hl [1, 2, 3, 4, 5] rfl) hf
  · have hf := (if_neg c1).symm.trans hf
    refine lv_iload_n C.1 C.2.1 dX0_nearestLamp_74 rfl (lv_at hl 3 rfl) ?_
    refine lv_iconst C.1 C.2.1 dX0_nearestLamp_75 ic_m1 ?_
    refine lv_icmp_eq (tgt := 85) C.1 C.2.1 dX0_nearestLamp_76 rfl (fun c2 => ?_) (fun c2 => ?_)
    · have hf := (if_pos c2).symm.trans hf
      exact kX0_nearestLamp_85 hK7 C x0 x1 x4 x5 _ _ _ hx0 hx1 hW (lv_sub hl [1, 2, 5, 6] rfl) hf
    · have hf := (if_neg c2).symm.trans hf
      refine lv_iload C.1 C.2.1 dX0_nearestLamp_79 (lv_at hl 6 rfl) ?_
      refine lv_iload_n C.1 C.2.1 dX0_nearestLamp_81 rfl (lv_at hl 4 rfl) ?_
      refine lv_icmp_ge (tgt := 91) C.1 C.2.1 dX0_nearestLamp_82 rfl (fun c3 => ?_) (fun c3 => ?_)
      · have hf := (if_pos c3).symm.trans hf
        exact kX0_nearestLamp_91 hK7 C x0 x1 x2 x3 x4 _ _ _ hx0 hx1 hW (lv_sub hl [1, 2, 3, 4, 5] rfl) hf
      · have hf := (if_neg c3).symm.trans hf
        exact kX0_nearestLamp_85 hK7 C x0 x1 x4 x5 _ _ _ hx0 hx1 hW (lv_sub hl [1, 2, 5, 6] rfl) hf

set_option maxRecDepth 100000 in
theorem kX0_nearestLamp_66 {p : Program} {l : Launch} {e : Env} {s : State} {m : MethodId} {av : Array Value} {below : List Frame} {meth : Method} {c : Code} {A : Nat → Prop} {G : Gv} {L : List Nat} {S : MS} {q : Int32} {K7 : Nat → Nat → Int32 → Int32 → Int32 → MS → Option Int32} (hK7 : ∀ (x0 : Nat) (x1 : Nat) (x2 : Int32) (x3 : Int32) (x4 : Int32) (H : Heap) (locs : List Loc) (ls : Array Slot), (x0 < shX.1 ∧ shX.2.1 x0 = 0) → (x1 < shX.1 ∧ shX.2.1 x1 = 9) → mW G shX L S A s H locs → lv_has ls 7 [(0, .ref (ad L x0)), (1, .ref (ad L x1)), (2, .int x2), (3, .int x3), (4, .int x4)] → K7 x0 x1 x2 x3 x4 S = some q → W p l e (rmd (3)) s m av below meth c H locs 0 0 (MQ below (mQ G shX L S (some (.int q)) A) av s 0 0 A) (F0 m 7 ls [])) (C : mC p s m av meth c cX0_nearestLamp RX0 7 (some .int)) : ∀ (x0 : Nat) (x1 : Nat) (x2 : Int32) (x3 : Int32) (x4 : Int32) (x5 : Int32) (H : Heap) (locs : List Loc) (ls : Array Slot), (x0 < shX.1 ∧ shX.2.1 x0 = 0) → (x1 < shX.1 ∧ shX.2.1 x1 = 9) → mW G shX L S A s H locs → lv_has ls 7 [(0, .ref (ad L x0)), (1, .ref (ad L x1)), (2, .int x2), (3, .int x3), (4, .int x4), (5, .int x5)] → fX0_nearestLamp_66 K7 x0 x1 x2 x3 x4 x5 S = some q → W p l e (rmd (3)) s m av below meth c H locs 0 0 (MQ below (mQ G shX L S (some (.int q)) A) av s 0 0 A) (F0 m 66 ls []) := by
  intro x0 x1 x2 x3 x4 x5 H locs ls hx0 hx1 hW hl hf
  unfold fX0_nearestLamp_66 at hf
  refine lv_iconst C.1 C.2.1 dX0_nearestLamp_66 ic_0 ?_
  exact kX0_nearestLamp_67 hK7 C x0 x1 x2 x3 x4 x5 (0 : Int32) _ _ _ hx0 hx1 hW (lv_sub hl [0, 1, 2, 3, 4, 5] rfl) hf

set_option maxRecDepth 100000 in
theorem kX0_nearestLamp_7 {p : Program} {l : Launch} {e : Env} {s : State} {m : MethodId} {av : Array Value} {below : List Frame} {meth : Method} {c : Code} {A : Nat → Prop} {G : Gv} {L : List Nat} {S : MS} {q : Int32}  (C : mC p s m av meth c cX0_nearestLamp RX0 7 (some .int)) : ∀ (n : Nat) (x0 : Nat) (x1 : Nat) (x2 : Int32) (x3 : Int32) (x4 : Int32) (H : Heap) (locs : List Loc) (ls : Array Slot), (x0 < shX.1 ∧ shX.2.1 x0 = 0) → (x1 < shX.1 ∧ shX.2.1 x1 = 9) → mW G shX L S A s H locs → lv_has ls 7 [(0, .ref (ad L x0)), (1, .ref (ad L x1)), (2, .int x2), (3, .int x3), (4, .int x4)] → fX0_nearestLamp_7  n x0 x1 x2 x3 x4 S = some q → W p l e (rmd (3)) s m av below meth c H locs 0 0 (MQ below (mQ G shX L S (some (.int q)) A) av s 0 0 A) (F0 m 7 ls []) := by
  intro n
  induction n with
  | zero =>
    intro x0 x1 x2 x3 x4 H locs ls hx0 hx1 hW hl hf
    rw [fX0_nearestLamp_7] at hf
    cases hf
  | succ n ih =>
    intro x0 x1 x2 x3 x4 H locs ls hx0 hx1 hW hl hf
    rw [fX0_nearestLamp_7] at hf
    refine lv_iload C.1 C.2.1 dX0_nearestLamp_7 (lv_at hl 4 rfl) ?_
    refine lv_aload_n C.1 C.2.1 dX0_nearestLamp_9 rfl (lv_at hl 0 rfl) ?_
    refine m_getr C hW hx0 flX0_15 (by decide) dX0_nearestLamp_10 (fun hk4 => ?_)
    refine m_getr C hW hk4 flX0_169 (by decide) dX0_nearestLamp_13 (fun hk5 => ?_)
    obtain ⟨q6, h7, hf⟩ := bd hf
    refine m_callV (As := []) (rest := [.int x4]) C hW hk5 (cX7_size_ok  hk5 h7) mlX0_33 (by decide) rfl hl.1 rfl (Nat.le_of_ble_eq_true rfl) (Nat.le_of_ble_eq_true rfl) (Nat.le_of_ble_eq_true rfl) dX0_nearestLamp_16 (fun H locs hW => ?_)
    refine lv_icmp_ge (tgt := 97) C.1 C.2.1 dX0_nearestLamp_19 rfl (fun c8 => ?_) (fun c8 => ?_)
    · have hf := (if_pos c8).symm.trans hf
      refine lv_iload_n C.1 C.2.1 dX0_nearestLamp_97 rfl (lv_at hl 2 rfl) ?_
      cases hf
      exact m_iret C hW dX0_nearestLamp_98
    · have hf := (if_neg c8).symm.trans hf
      refine lv_aload_n C.1 C.2.1 dX0_nearestLamp_22 rfl (lv_at hl 0 rfl) ?_
      refine lv_aload_n C.1 C.2.1 dX0_nearestLamp_23 rfl (lv_at hl 1 rfl) ?_
      refine lv_iload C.1 C.2.1 dX0_nearestLamp_24 (lv_at hl 4 rfl) ?_
      obtain ⟨q9, h10, hf⟩ := bd hf
      refine m_callV (As := [.ref (ad L x1), .int x4]) (rest := []) C hW hx0 (cX0_distance_ok  hx0 hx1 h10) mlX0_143 (by decide) rfl hl.1 rfl (Nat.le_of_ble_eq_true rfl) (Nat.le_of_ble_eq_true rfl) (Nat.le_of_ble_eq_true rfl) dX0_nearestLamp_26 (fun H locs hW => ?_)
      refine lv_istore (lv' := [(5, .int q9), (0, .ref (ad L x0)), (1, .ref (ad L x1)), (2, .int x2), (3, .int x3), (4, .int x4)]) C.1 C.2.1 dX0_nearestLamp_29 hl (by decide) rfl (fun ls hl => ?_)
      refine lv_aload_n C.1 C.2.1 dX0_nearestLamp_31 rfl (lv_at hl 2 rfl) ?_
      refine m_geti C hW hx1 flX0_172 dX0_nearestLamp_32 ?_
      refine lv_iload C.1 C.2.1 dX0_nearestLamp_35 (lv_at hl 5 rfl) ?_
      refine lv_ishr C.1 C.2.1 dX0_nearestLamp_37 ?_
      refine lv_iconst C.1 C.2.1 dX0_nearestLamp_38 ic_1 ?_
      refine lv_iand C.1 C.2.1 dX0_nearestLamp_39 ?_
      refine lv_iconst C.1 C.2.1 dX0_nearestLamp_40 ic_1 ?_
      refine lv_icmp_ne (tgt := 66) C.1 C.2.1 dX0_nearestLamp_41 rfl (fun c11 => ?_) (fun c11 => ?_)
      · have hf := (if_neg c11).symm.trans hf
        exact kX0_nearestLamp_66 ih C x0 x1 x2 x3 x4 q9 _ _ _ hx0 hx1 hW (lv_sub hl [1, 2, 3, 4, 5, 0] rfl) hf
      · have hf := (if_pos c11).symm.trans hf
        refine lv_iload C.1 C.2.1 dX0_nearestLamp_44 (lv_at hl 0 rfl) ?_
        refine lv_aload_n C.1 C.2.1 dX0_nearestLamp_46 rfl (lv_at hl 1 rfl) ?_
        refine m_getr C hW hx0 flX0_15 (by decide) dX0_nearestLamp_47 (fun hk12 => ?_)
        refine m_getr C hW hk12 flX0_169 (by decide) dX0_nearestLamp_50 (fun hk13 => ?_)
        refine lv_iload C.1 C.2.1 dX0_nearestLamp_53 (lv_at hl 5 rfl) ?_
        refine lv_iconst C.1 C.2.1 dX0_nearestLamp_55 ic_3 ?_
        obtain ⟨q14, h15, hf⟩ := bd hf
        refine m_callV (As := [.int x4, .int (3 : Int32)]) (rest := [.int q9]) C hW hk13 (cX7_get_ok  hk13 h15) mlX0_39 (by decide) rfl hl.1 rfl (Nat.le_of_ble_eq_true rfl) (Nat.le_of_ble_eq_true rfl) (Nat.le_of_ble_eq_true rfl) dX0_nearestLamp_56 (fun H locs hW => ?_)
        refine lv_icmp_gt (tgt := 66) C.1 C.2.1 dX0_nearestLamp_59 rfl (fun c16 => ?_) (fun c16 => ?_)
        · have hf := (if_pos c16).symm.trans hf
          exact kX0_nearestLamp_66 ih C x0 x1 x2 x3 x4 q9 _ _ _ hx0 hx1 hW (lv_sub hl [1, 2, 3, 4, 5, 0] rfl) hf
        · have hf := (if_neg c16).symm.trans hf
          refine lv_iconst C.1 C.2.1 dX0_nearestLamp_62 ic_1 ?_
          refine lv_goto (tgt := 67) C.1 C.2.1 dX0_nearestLamp_63 rfl ?_
          exact kX0_nearestLamp_67 ih C x0 x1 x2 x3 x4 q9 (1 : Int32) _ _ _ hx0 hx1 hW (lv_sub hl [1, 2, 3, 4, 5, 0] rfl) hf

set_option maxRecDepth 100000 in
theorem cX0_nearestLamp_ok {l : Launch} {G : Gv} {L : List Nat} {S : MS} {a0 : Nat} {a1 : Nat} {q : Int32} (ha0 : a0 < shX.1 ∧ shX.2.1 a0 = 0) (ha1 : a1 < shX.1 ∧ shX.2.1 a1 = 9) (hf : fX0_nearestLamp a0 a1 S = some q) : Mt l yX0_nearestLamp cX0_nearestLamp 7 (some .int) (3) G shX L S [.ref (ad L a0), .ref (ad L a1)] (some (.int q)) S := by
  refine m_enter (lv := [(0, .ref (ad L a0)), (1, .ref (ad L a1))]) (plainFor_of_name (by decide)) (Nat.le_of_ble_eq_true rfl) rfl ?_
  intro p e s m below meth c A ls C hW hl
  unfold fX0_nearestLamp at hf
  refine lv_iconst C.1 C.2.1 dX0_nearestLamp_0 ic_m1 ?_
  refine lv_istore_n (lv' := [(2, .int (-1 : Int32)), (0, .ref (ad L a0)), (1, .ref (ad L a1))]) C.1 C.2.1 dX0_nearestLamp_1 rfl hl (by decide) rfl (fun ls hl => ?_)
  refine lv_iconst C.1 C.2.1 dX0_nearestLamp_2 ic_0 ?_
  refine lv_istore_n (lv' := [(3, .int (0 : Int32)), (2, .int (-1 : Int32)), (0, .ref (ad L a0)), (1, .ref (ad L a1))]) C.1 C.2.1 dX0_nearestLamp_3 rfl hl (by decide) rfl (fun ls hl => ?_)
  refine lv_iconst C.1 C.2.1 dX0_nearestLamp_4 ic_0 ?_
  refine lv_istore (lv' := [(4, .int (0 : Int32)), (3, .int (0 : Int32)), (2, .int (-1 : Int32)), (0, .ref (ad L a0)), (1, .ref (ad L a1))]) C.1 C.2.1 dX0_nearestLamp_5 hl (by decide) rfl (fun ls hl => ?_)
  exact kX0_nearestLamp_7  C 1000 a0 a1 (-1 : Int32) (0 : Int32) (0 : Int32) _ _ _ ha0 ha1 hW (lv_sub hl [3, 4, 2, 1, 0] rfl) hf

def fX0_workOut (a0 : Nat) (a1 : Int32) (S : MS) : Option (Int64 × MS) := (if bnd a1 (lnX (gR S (gR S a0 1) 7)) = true then (fX1_workOut  (gR S (gR S (gR S a0 1) 7) a1.toNatClampNeg) (gR S a0 0) S).bind fun q6 => some (q6.1, q6.2) else none)
set_option maxRecDepth 100000 in
theorem cX0_workOut_ok {l : Launch} {G : Gv} {L : List Nat} {S : MS} {a0 : Nat} {a1 : Int32} {q : (Int64 × MS)} (ha0 : a0 < shX.1 ∧ shX.2.1 a0 = 0) (hf : fX0_workOut a0 a1 S = some q) : Mt l yX0_workOut cX0_workOut 2 (some .long) (3) G shX L S [.ref (ad L a0), .int a1] (some (.long q.1)) q.2 := by
  refine m_enter (lv := [(0, .ref (ad L a0)), (1, .int a1)]) (plainFor_of_name (by decide)) (Nat.le_of_ble_eq_true rfl) rfl ?_
  intro p e s m below meth c A ls C hW hl
  unfold fX0_workOut at hf
  refine lv_aload_n C.1 C.2.1 dX0_workOut_0 rfl (lv_at hl 0 rfl) ?_
  refine m_getr C hW ha0 flX0_15 (by decide) dX0_workOut_1 (fun hk1 => ?_)
  refine m_getr C hW hk1 flX0_208 (by decide) dX0_workOut_4 (fun hk2 => ?_)
  refine lv_iload_n C.1 C.2.1 dX0_workOut_7 rfl (lv_at hl 1 rfl) ?_
  obtain ⟨hb3, hf⟩ := gd hf
  refine m_aald (kt := 1) C hW hk2 (by decide) hb3 dX0_workOut_8 (fun hk4 => ?_)
  refine lv_aload_n C.1 C.2.1 dX0_workOut_9 rfl (lv_at hl 0 rfl) ?_
  refine m_getr C hW ha0 flX0_11 (by decide) dX0_workOut_10 (fun hk5 => ?_)
  obtain ⟨q6, h7, hf⟩ := bd hf
  refine m_callV (As := [.ref (ad L (gR S a0 0))]) (rest := []) C hW hk4 (cX1_workOut_ok  hk4 hk5 h7) mlX0_212 (by decide) rfl hl.1 rfl (Nat.le_of_ble_eq_true rfl) (Nat.le_of_ble_eq_true rfl) (Nat.le_of_ble_eq_true rfl) dX0_workOut_13 (fun H locs hW => ?_)
  cases hf
  exact m_lret C hW dX0_workOut_16

def fX0_within (a0 : Nat) (a1 : Int32) (a2 : Int32) (a3 : Int32) (S : MS) : Option (Int32 × MS) := (if bnd a1 (lnX (gR S (gR S a0 1) 7)) = true then (fX1_workOut  (gR S (gR S (gR S a0 1) 7) a1.toNatClampNeg) (gR S a0 0) S).bind fun q6 => (if lg_cmp q6.1 (-9223372036854775808 : Int64) = (0 : Int32) then some (a3, q6.2) else some ((if (if q6.1 < a2.toInt64 then q6.1 else a2.toInt64) < (0 : Int64) then (0 : Int64) else (if q6.1 < a2.toInt64 then q6.1 else a2.toInt64)).toInt32, q6.2)) else none)
set_option maxRecDepth 100000 in
theorem cX0_within_ok {l : Launch} {G : Gv} {L : List Nat} {S : MS} {a0 : Nat} {a1 : Int32} {a2 : Int32} {a3 : Int32} {q : (Int32 × MS)} (ha0 : a0 < shX.1 ∧ shX.2.1 a0 = 0) (hf : fX0_within a0 a1 a2 a3 S = some q) : Mt l yX0_within cX0_within 6 (some .int) (3) G shX L S [.ref (ad L a0), .int a1, .int a2, .int a3] (some (.int q.1)) q.2 := by
  refine m_enter (lv := [(0, .ref (ad L a0)), (1, .int a1), (2, .int a2), (3, .int a3)]) (plainFor_of_name (by decide)) (Nat.le_of_ble_eq_true rfl) rfl ?_
  intro p e s m below meth c A ls C hW hl
  unfold fX0_within at hf
  refine lv_aload_n C.1 C.2.1 dX0_within_0 rfl (lv_at hl 0 rfl) ?_
  refine m_getr C hW ha0 flX0_15 (by decide) dX0_within_1 (fun hk1 => ?_)
  refine m_getr C hW hk1 flX0_208 (by decide) dX0_within_4 (fun hk2 => ?_)
  refine lv_iload_n C.1 C.2.1 dX0_within_7 rfl (lv_at hl 1 rfl) ?_
  obtain ⟨hb3, hf⟩ := gd hf
  refine m_aald (kt := 1) C hW hk2 (by decide) hb3 dX0_within_8 (fun hk4 => ?_)
  refine lv_aload_n C.1 C.2.1 dX0_within_9 rfl (lv_at hl 0 rfl) ?_
  refine m_getr C hW ha0 flX0_11 (by decide) dX0_within_10 (fun hk5 => ?_)
  obtain ⟨q6, h7, hf⟩ := bd hf
  refine m_callV (As := [.ref (ad L (gR S a0 0))]) (rest := []) C hW hk4 (cX1_workOut_ok  hk4 hk5 h7) mlX0_212 (by decide) rfl hl.1 rfl (Nat.le_of_ble_eq_true rfl) (Nat.le_of_ble_eq_true rfl) (Nat.le_of_ble_eq_true rfl) dX0_within_13 (fun H locs hW => ?_)
  refine lv_lstore (lv' := [(4, .long q6.1), (0, .ref (ad L a0)), (1, .int a1), (2, .int a2), (3, .int a3)]) C.1 C.2.1 dX0_within_16 hl (by decide) rfl (fun ls hl => ?_)
  refine lv_lload C.1 C.2.1 dX0_within_18 (lv_at hl 0 rfl) ?_
  refine lv_ldc2 C.1 C.2.1 C.2.2.2.1 (C.2.2.2.2.1 _ kw_941) dX0_within_20 ?_
  refine W.lcmp C.1 C.2.1 dX0_within_23 ?_
  refine lv_if_ne (tgt := 31) C.1 C.2.1 dX0_within_24 rfl (fun c8 => ?_) (fun c8 => ?_)
  · have hf := (if_neg c8).symm.trans hf
    refine lv_lconst C.1 C.2.1 dX0_within_31 lc_0 ?_
    refine lv_iload_n C.1 C.2.1 dX0_within_32 rfl (lv_at hl 3 rfl) ?_
    refine lv_i2l C.1 C.2.1 dX0_within_33 rfl ?_
    refine lv_lload C.1 C.2.1 dX0_within_34 (lv_at hl 0 rfl) ?_
    refine va_mmin_long C.1 C.2.1 (C.2.2.1.trans hl.1.symm) C.2.2.2.1 (C.2.2.2.2.1 _ kw_942) (C.2.2.2.2.1 _ kw_943) (C.2.2.2.2.1 _ kw_135) (C.2.2.2.2.1 _ kw_944) (Nat.le_of_ble_eq_true rfl) (Nat.le_of_ble_eq_true rfl) (Nat.le_refl 0) (Nat.le_refl 0) dX0_within_36 ?_
    refine va_mmax_long C.1 C.2.1 (C.2.2.1.trans hl.1.symm) C.2.2.2.1 (C.2.2.2.2.1 _ kw_945) (C.2.2.2.2.1 _ kw_946) (C.2.2.2.2.1 _ kw_135) (C.2.2.2.2.1 _ kw_947) (Nat.le_of_ble_eq_true rfl) (Nat.le_of_ble_eq_true rfl) (Nat.le_refl 0) (Nat.le_refl 0) dX0_within_39 ?_
    refine lv_l2i C.1 C.2.1 dX0_within_42 rfl ?_
    cases hf
    exact m_iret C hW dX0_within_43
  · have hf := (if_pos c8).symm.trans hf
    refine lv_iload_n C.1 C.2.1 dX0_within_27 rfl (lv_at hl 4 rfl) ?_
    refine lv_goto (tgt := 43) C.1 C.2.1 dX0_within_28 rfl ?_
    cases hf
    exact m_iret C hW dX0_within_43

def fX10_rests_48 (K28 : Nat → Int32 → Int32 → Int32 → Int32 → MS → Option Int32) (x0 : Nat) (x1 : Int32) (x2 : Int32) (x3 : Int32) (x4 : Int32) (S : MS) : Option Int32 := K28 x0 x1 x2 x3 (x4 + (1 : Int32)) S
def fX10_rests_28  : Nat → Nat → Int32 → Int32 → Int32 → Int32 → MS → Option Int32
  | 0, _, _, _, _, _, _ => none
  | n + 1, x0, x1, x2, x3, x4, S => (if (4 : Int32) ≤ x4 then some x3 else (fX10_isRest  x0 x1 x2 x4 S).bind fun q2 => (if q2 = (0 : Int32) then fX10_rests_48 (fX10_rests_28  n) x0 x1 x2 x3 x4 S else fX10_rests_48 (fX10_rests_28  n) x0 x1 x2 (x3 + (1 : Int32)) x4 S))
def fX10_rests (a0 : Nat) (a1 : Int32) (a2 : Int32) (S : MS) : Option Int32 := (fX10_isMan  a0 a1 S).bind fun q5 => (if q5 = (0 : Int32) then some (-1 : Int32) else (fX10_isMan  a0 a2 S).bind fun q8 => (if q8 = (0 : Int32) then some (-1 : Int32) else (if a1 = a2 then some (-1 : Int32) else fX10_rests_28  1000 a0 a1 a2 (0 : Int32) (0 : Int32) S)))
set_option maxRecDepth 100000 in
theorem kX10_rests_48 {p : Program} {l : Launch} {e : Env} {s : State} {m : MethodId} {av : Array Value} {below : List Frame} {meth : Method} {c : Code} {A : Nat → Prop} {G : Gv} {L : List Nat} {S : MS} {q : Int32} {K28 : Nat → Int32 → Int32 → Int32 → Int32 → MS → Option Int32} (hK28 : ∀ (x0 : Nat) (x1 : Int32) (x2 : Int32) (x3 : Int32) (x4 : Int32) (H : Heap) (locs : List Loc) (ls : Array Slot), (x0 < shX.1 ∧ shX.2.1 x0 = 10) → mW G shX L S A s H locs → lv_has ls 5 [(0, .ref (ad L x0)), (1, .int x1), (2, .int x2), (3, .int x3), (4, .int x4)] → K28 x0 x1 x2 x3 x4 S = some q → W p l e (rmd (3)) s m av below meth c H locs 0 0 (MQ below (mQ G shX L S (some (.int q)) A) av s 0 0 A) (F0 m 28 ls [])) (C : mC p s m av meth c cX10_rests RX10 5 (some .int)) : ∀ (x0 : Nat) (x1 : Int32) (x2 : Int32) (x3 : Int32) (x4 : Int32) (H : Heap) (locs : List Loc) (ls : Array Slot), (x0 < shX.1 ∧ shX.2.1 x0 = 10) → mW G shX L S A s H locs → lv_has ls 5 [(0, .ref (ad L x0)), (1, .int x1), (2, .int x2), (3, .int x3), (4, .int x4)] → fX10_rests_48 K28 x0 x1 x2 x3 x4 S = some q → W p l e (rmd (3)) s m av below meth c H locs 0 0 (MQ below (mQ G shX L S (some (.int q)) A) av s 0 0 A) (F0 m 48 ls []) := by
  intro x0 x1 x2 x3 x4 H locs ls hx0 hW hl hf
  unfold fX10_rests_48 at hf
  refine lv_iinc (v := x4 + (1 : Int32)) (lv' := [(4, .int (x4 + (1 : Int32))), (0, .ref (ad L x0)), (1, .int x1), (2, .int x2), (3, .int x3)]) C.1 C.2.1 dX10_rests_48 hl (k := 4) rfl (congrArg (fun z => x4 + z) ic_1) (by decide) rfl (fun ls hl => ?_)
  refine lv_goto (tgt := 28) C.1 C.2.1 dX10_rests_51 rfl ?_
  exact hK28 x0 x1 x2 x3 (x4 + (1 : Int32)) _ _ _ hx0 hW (lv_sub hl [1, 2, 3, 4, 0] rfl) hf

set_option maxRecDepth 100000 in
theorem kX10_rests_28 {p : Program} {l : Launch} {e : Env} {s : State} {m : MethodId} {av : Array Value} {below : List Frame} {meth : Method} {c : Code} {A : Nat → Prop} {G : Gv} {L : List Nat} {S : MS} {q : Int32}  (C : mC p s m av meth c cX10_rests RX10 5 (some .int)) : ∀ (n : Nat) (x0 : Nat) (x1 : Int32) (x2 : Int32) (x3 : Int32) (x4 : Int32) (H : Heap) (locs : List Loc) (ls : Array Slot), (x0 < shX.1 ∧ shX.2.1 x0 = 10) → mW G shX L S A s H locs → lv_has ls 5 [(0, .ref (ad L x0)), (1, .int x1), (2, .int x2), (3, .int x3), (4, .int x4)] → fX10_rests_28  n x0 x1 x2 x3 x4 S = some q → W p l e (rmd (3)) s m av below meth c H locs 0 0 (MQ below (mQ G shX L S (some (.int q)) A) av s 0 0 A) (F0 m 28 ls []) := by
  intro n
  induction n with
  | zero =>
    intro x0 x1 x2 x3 x4 H locs ls hx0 hW hl hf
    rw [fX10_rests_28] at hf
    cases hf
  | succ n ih =>
    intro x0 x1 x2 x3 x4 H locs ls hx0 hW hl hf
    rw [fX10_rests_28] at hf
    refine lv_iload C.1 C.2.1 dX10_rests_28 (lv_at hl 4 rfl) ?_
    refine lv_iconst C.1 C.2.1 dX10_rests_30 ic_4 ?_
    refine lv_icmp_ge (tgt := 54) C.1 C.2.1 dX10_rests_31 rfl (fun c1 => ?_) (fun c1 => ?_)
    · have hf := (if_pos c1).symm.trans hf
      refine lv_iload_n C.1 C.2.1 dX10_rests_54 rfl (lv_at hl 3 rfl) ?_
      cases hf
      exact m_iret C hW dX10_rests_55
    · have hf := (if_neg c1).symm.trans hf
      refine lv_aload_n C.1 C.2.1 dX10_rests_34 rfl (lv_at hl 0 rfl) ?_
      refine lv_iload_n C.1 C.2.1 dX10_rests_35 rfl (lv_at hl 1 rfl) ?_
      refine lv_iload_n C.1 C.2.1 dX10_rests_36 rfl (lv_at hl 2 rfl) ?_
      refine lv_iload C.1 C.2.1 dX10_rests_37 (lv_at hl 4 rfl) ?_
      obtain ⟨q2, h3, hf⟩ := bd hf
      refine m_callV (As := [.int x1, .int x2, .int x4]) (rest := []) C hW hx0 (cX10_isRest_ok  hx0 h3) mlX10_319 (by decide) rfl hl.1 rfl (Nat.le_of_ble_eq_true rfl) (Nat.le_of_ble_eq_true rfl) (Nat.le_of_ble_eq_true rfl) dX10_rests_39 (fun H locs hW => ?_)
      refine lv_if_eq (tgt := 48) C.1 C.2.1 dX10_rests_42 rfl (fun c4 => ?_) (fun c4 => ?_)
      · have hf := (if_pos c4).symm.trans hf
        exact kX10_rests_48 ih C x0 x1 x2 x3 x4 _ _ _ hx0 hW (lv_sub hl [0, 1, 2, 3, 4] rfl) hf
      · have hf := (if_neg c4).symm.trans hf
        refine lv_iinc (v := x3 + (1 : Int32)) (lv' := [(3, .int (x3 + (1 : Int32))), (0, .ref (ad L x0)), (1, .int x1), (2, .int x2), (4, .int x4)]) C.1 C.2.1 dX10_rests_45 hl (k := 3) rfl (congrArg (fun z => x3 + z) ic_1) (by decide) rfl (fun ls hl => ?_)
        exact kX10_rests_48 ih C x0 x1 x2 (x3 + (1 : Int32)) x4 _ _ _ hx0 hW (lv_sub hl [1, 2, 3, 0, 4] rfl) hf

set_option maxRecDepth 100000 in
theorem cX10_rests_ok {l : Launch} {G : Gv} {L : List Nat} {S : MS} {a0 : Nat} {a1 : Int32} {a2 : Int32} {q : Int32} (ha0 : a0 < shX.1 ∧ shX.2.1 a0 = 10) (hf : fX10_rests a0 a1 a2 S = some q) : Mt l yX10_rests cX10_rests 5 (some .int) (3) G shX L S [.ref (ad L a0), .int a1, .int a2] (some (.int q)) S := by
  refine m_enter (lv := [(0, .ref (ad L a0)), (1, .int a1), (2, .int a2)]) (plainFor_of_name (by decide)) (Nat.le_of_ble_eq_true rfl) rfl ?_
  intro p e s m below meth c A ls C hW hl
  unfold fX10_rests at hf
  refine lv_aload_n C.1 C.2.1 dX10_rests_0 rfl (lv_at hl 0 rfl) ?_
  refine lv_iload_n C.1 C.2.1 dX10_rests_1 rfl (lv_at hl 1 rfl) ?_
  obtain ⟨q5, h6, hf⟩ := bd hf
  refine m_callV (As := [.int a1]) (rest := []) C hW ha0 (cX10_isMan_ok  ha0 h6) mlX10_201 (by decide) rfl hl.1 rfl (Nat.le_of_ble_eq_true rfl) (Nat.le_of_ble_eq_true rfl) (Nat.le_of_ble_eq_true rfl) dX10_rests_2 (fun H locs hW => ?_)
  refine lv_if_eq (tgt := 21) C.1 C.2.1 dX10_rests_5 rfl (fun c7 => ?_) (fun c7 => ?_)
  · have hf := (if_pos c7).symm.trans hf
    refine lv_iconst C.1 C.2.1 dX10_rests_21 ic_m1 ?_
    cases hf
    exact m_iret C hW dX10_rests_22
  · have hf := (if_neg c7).symm.trans hf
    refine lv_aload_n C.1 C.2.1 dX10_rests_8 rfl (lv_at hl 0 rfl) ?_
    refine lv_iload_n C.1 C.2.1 dX10_rests_9 rfl (lv_at hl 2 rfl) ?_
    obtain ⟨q8, h9, hf⟩ := bd hf
    refine m_callV (As := [.int a2]) (rest := []) C hW ha0 (cX10_isMan_ok  ha0 h9) mlX10_201 (by decide) rfl hl.1 rfl (Nat.le_of_ble_eq_true rfl) (Nat.le_of_ble_eq_true rfl) (Nat.le_of_ble_eq_true rfl) dX10_rests_10 (fun H locs hW => ?_)
    refine lv_if_eq (tgt := 21) C.1 C.2.1 dX10_rests_13 rfl (fun c10 => ?_) (fun c10 => ?_)
    · have hf := (if_pos c10).symm.trans hf
      refine lv_iconst C.1 C.2.1 dX10_rests_21 ic_m1 ?_
      cases hf
      exact m_iret C hW dX10_rests_22
    · have hf := (if_neg c10).symm.trans hf
      refine lv_iload_n C.1 C.2.1 dX10_rests_16 rfl (lv_at hl 1 rfl) ?_
      refine lv_iload_n C.1 C.2.1 dX10_rests_17 rfl (lv_at hl 2 rfl) ?_
      refine lv_icmp_ne (tgt := 23) C.1 C.2.1 dX10_rests_18 rfl (fun c11 => ?_) (fun c11 => ?_)
      · have hf := (if_neg c11).symm.trans hf
        refine lv_iconst C.1 C.2.1 dX10_rests_23 ic_0 ?_
        refine lv_istore_n (lv' := [(3, .int (0 : Int32)), (0, .ref (ad L a0)), (1, .int a1), (2, .int a2)]) C.1 C.2.1 dX10_rests_24 rfl hl (by decide) rfl (fun ls hl => ?_)
        refine lv_iconst C.1 C.2.1 dX10_rests_25 ic_0 ?_
        refine lv_istore (lv' := [(4, .int (0 : Int32)), (3, .int (0 : Int32)), (0, .ref (ad L a0)), (1, .int a1), (2, .int a2)]) C.1 C.2.1 dX10_rests_26 hl (by decide) rfl (fun ls hl => ?_)
        exact kX10_rests_28  C 1000 a0 a1 a2 (0 : Int32) (0 : Int32) _ _ _ ha0 hW (lv_sub hl [2, 3, 4, 1, 0] rfl) hf
      · have hf := (if_pos c11).symm.trans hf
        refine lv_iconst C.1 C.2.1 dX10_rests_21 ic_m1 ?_
        cases hf
        exact m_iret C hW dX10_rests_22

def fX10_rest_72 (K33 : Nat → Int32 → Int32 → Int32 → Int32 → Int32 → MS → Option Int32) (x0 : Nat) (x1 : Int32) (x2 : Int32) (x3 : Int32) (x4 : Int32) (x5 : Int32) (S : MS) : Option Int32 := K33 x0 x1 x2 x3 x4 (x5 + (1 : Int32)) S
def fX10_rest_33  : Nat → Nat → Int32 → Int32 → Int32 → Int32 → Int32 → MS → Option Int32
  | 0, _, _, _, _, _, _, _ => none
  | n + 1, x0, x1, x2, x3, x4, x5, S => (if (4 : Int32) ≤ x5 then some (-2 : Int32) else (fX10_isRest  x0 x1 x2 x5 S).bind fun q2 => (if q2 = (0 : Int32) then fX10_rest_72 (fX10_rest_33  n) x0 x1 x2 x3 x4 x5 S else (if x4 = x3 then some (((x5 / (2 : Int32)) * (10 : Int32)) + (x5 - (x5 / (2 : Int32)) * (2 : Int32))) else fX10_rest_72 (fX10_rest_33  n) x0 x1 x2 x3 (x4 + (1 : Int32)) x5 S)))
def fX10_rest (a0 : Nat) (a1 : Int32) (a2 : Int32) (a3 : Int32) (S : MS) : Option Int32 := (fX10_isMan  a0 a1 S).bind fun q6 => (if q6 = (0 : Int32) then some (-1 : Int32) else (fX10_isMan  a0 a2 S).bind fun q9 => (if q9 = (0 : Int32) then some (-1 : Int32) else (if a1 = a2 then some (-1 : Int32) else (if (0 : Int32) ≤ a3 then fX10_rest_33  1000 a0 a1 a2 a3 (0 : Int32) (0 : Int32) S else some (-1 : Int32)))))
set_option maxRecDepth 100000 in
theorem kX10_rest_72 {p : Program} {l : Launch} {e : Env} {s : State} {m : MethodId} {av : Array Value} {below : List Frame} {meth : Method} {c : Code} {A : Nat → Prop} {G : Gv} {L : List Nat} {S : MS} {q : Int32} {K33 : Nat → Int32 → Int32 → Int32 → Int32 → Int32 → MS → Option Int32} (hK33 : ∀ (x0 : Nat) (x1 : Int32) (x2 : Int32) (x3 : Int32) (x4 : Int32) (x5 : Int32) (H : Heap) (locs : List Loc) (ls : Array Slot), (x0 < shX.1 ∧ shX.2.1 x0 = 10) → mW G shX L S A s H locs → lv_has ls 6 [(0, .ref (ad L x0)), (1, .int x1), (2, .int x2), (3, .int x3), (4, .int x4), (5, .int x5)] → K33 x0 x1 x2 x3 x4 x5 S = some q → W p l e (rmd (3)) s m av below meth c H locs 0 0 (MQ below (mQ G shX L S (some (.int q)) A) av s 0 0 A) (F0 m 33 ls [])) (C : mC p s m av meth c cX10_rest RX10 6 (some .int)) : ∀ (x0 : Nat) (x1 : Int32) (x2 : Int32) (x3 : Int32) (x4 : Int32) (x5 : Int32) (H : Heap) (locs : List Loc) (ls : Array Slot), (x0 < shX.1 ∧ shX.2.1 x0 = 10) → mW G shX L S A s H locs → lv_has ls 6 [(0, .ref (ad L x0)), (1, .int x1), (2, .int x2), (3, .int x3), (4, .int x4), (5, .int x5)] → fX10_rest_72 K33 x0 x1 x2 x3 x4 x5 S = some q → W p l e (rmd (3)) s m av below meth c H locs 0 0 (MQ below (mQ G shX L S (some (.int q)) A) av s 0 0 A) (F0 m 72 ls []) := by
  intro x0 x1 x2 x3 x4 x5 H locs ls hx0 hW hl hf
  unfold fX10_rest_72 at hf
  refine lv_iinc (v := x5 + (1 : Int32)) (lv' := [(5, .int (x5 + (1 : Int32))), (0, .ref (ad L x0)), (1, .int x1), (2, .int x2), (3, .int x3), (4, .int x4)]) C.1 C.2.1 dX10_rest_72 hl (k := 5) rfl (congrArg (fun z => x5 + z) ic_1) (by decide) rfl (fun ls hl => ?_)
  refine lv_goto (tgt := 33) C.1 C.2.1 dX10_rest_75 rfl ?_
  exact hK33 x0 x1 x2 x3 x4 (x5 + (1 : Int32)) _ _ _ hx0 hW (lv_sub hl [1, 2, 3, 4, 5, 0] rfl) hf

set_option maxRecDepth 100000 in
theorem kX10_rest_33 {p : Program} {l : Launch} {e : Env} {s : State} {m : MethodId} {av : Array Value} {below : List Frame} {meth : Method} {c : Code} {A : Nat → Prop} {G : Gv} {L : List Nat} {S : MS} {q : Int32}  (C : mC p s m av meth c cX10_rest RX10 6 (some .int)) : ∀ (n : Nat) (x0 : Nat) (x1 : Int32) (x2 : Int32) (x3 : Int32) (x4 : Int32) (x5 : Int32) (H : Heap) (locs : List Loc) (ls : Array Slot), (x0 < shX.1 ∧ shX.2.1 x0 = 10) → mW G shX L S A s H locs → lv_has ls 6 [(0, .ref (ad L x0)), (1, .int x1), (2, .int x2), (3, .int x3), (4, .int x4), (5, .int x5)] → fX10_rest_33  n x0 x1 x2 x3 x4 x5 S = some q → W p l e (rmd (3)) s m av below meth c H locs 0 0 (MQ below (mQ G shX L S (some (.int q)) A) av s 0 0 A) (F0 m 33 ls []) := by
  intro n
  induction n with
  | zero =>
    intro x0 x1 x2 x3 x4 x5 H locs ls hx0 hW hl hf
    rw [fX10_rest_33] at hf
    cases hf
  | succ n ih =>
    intro x0 x1 x2 x3 x4 x5 H locs ls hx0 hW hl hf
    rw [fX10_rest_33] at hf
    refine lv_iload C.1 C.2.1 dX10_rest_33 (lv_at hl 5 rfl) ?_
    refine lv_iconst C.1 C.2.1 dX10_rest_35 ic_4 ?_
    refine lv_icmp_ge (tgt := 78) C.1 C.2.1 dX10_rest_36 rfl (fun c1 => ?_) (fun c1 => ?_)
    · have hf := (if_pos c1).symm.trans hf
      refine lv_bipush C.1 C.2.1 dX10_rest_78 bp_m2 ?_
      cases hf
      exact m_iret C hW dX10_rest_80
    · have hf := (if_neg c1).symm.trans hf
      refine lv_aload_n C.1 C.2.1 dX10_rest_39 rfl (lv_at hl 0 rfl) ?_
      refine lv_iload_n C.1 C.2.1 dX10_rest_40 rfl (lv_at hl 1 rfl) ?_
      refine lv_iload_n C.1 C.2.1 dX10_rest_41 rfl (lv_at hl 2 rfl) ?_
      refine lv_iload C.1 C.2.1 dX10_rest_42 (lv_at hl 5 rfl) ?_
      obtain ⟨q2, h3, hf⟩ := bd hf
      refine m_callV (As := [.int x1, .int x2, .int x5]) (rest := []) C hW hx0 (cX10_isRest_ok  hx0 h3) mlX10_319 (by decide) rfl hl.1 rfl (Nat.le_of_ble_eq_true rfl) (Nat.le_of_ble_eq_true rfl) (Nat.le_of_ble_eq_true rfl) dX10_rest_44 (fun H locs hW => ?_)
      refine lv_if_eq (tgt := 72) C.1 C.2.1 dX10_rest_47 rfl (fun c4 => ?_) (fun c4 => ?_)
      · have hf := (if_pos c4).symm.trans hf
        exact kX10_rest_72 ih C x0 x1 x2 x3 x4 x5 _ _ _ hx0 hW (lv_sub hl [0, 1, 2, 3, 4, 5] rfl) hf
      · have hf := (if_neg c4).symm.trans hf
        refine lv_iload C.1 C.2.1 dX10_rest_50 (lv_at hl 4 rfl) ?_
        refine lv_iload_n C.1 C.2.1 dX10_rest_52 rfl (lv_at hl 3 rfl) ?_
        refine lv_icmp_ne (tgt := 69) C.1 C.2.1 dX10_rest_53 rfl (fun c5 => ?_) (fun c5 => ?_)
        · have hf := (if_neg c5).symm.trans hf
          refine lv_iinc (v := x4 + (1 : Int32)) (lv' := [(4, .int (x4 + (1 : Int32))), (0, .ref (ad L x0)), (1, .int x1), (2, .int x2), (3, .int x3), (5, .int x5)]) C.1 C.2.1 dX10_rest_69 hl (k := 4) rfl (congrArg (fun z => x4 + z) ic_1) (by decide) rfl (fun ls hl => ?_)
          exact kX10_rest_72 ih C x0 x1 x2 x3 (x4 + (1 : Int32)) x5 _ _ _ hx0 hW (lv_sub hl [1, 2, 3, 4, 0, 5] rfl) hf
        · have hf := (if_pos c5).symm.trans hf
          refine lv_iload C.1 C.2.1 dX10_rest_56 (lv_at hl 5 rfl) ?_
          refine lv_iconst C.1 C.2.1 dX10_rest_58 ic_2 ?_
          refine lv_idiv C.1 C.2.1 dX10_rest_59 (by decide) ?_
          refine lv_bipush C.1 C.2.1 dX10_rest_60 bp_10 ?_
          refine lv_imul C.1 C.2.1 dX10_rest_62 ?_
          refine lv_iload C.1 C.2.1 dX10_rest_63 (lv_at hl 5 rfl) ?_
          refine lv_iconst C.1 C.2.1 dX10_rest_65 ic_2 ?_
          refine lv_irem C.1 C.2.1 dX10_rest_66 (by decide) ?_
          refine lv_iadd C.1 C.2.1 dX10_rest_67 ?_
          cases hf
          exact m_iret C hW dX10_rest_68

set_option maxRecDepth 100000 in
theorem cX10_rest_ok {l : Launch} {G : Gv} {L : List Nat} {S : MS} {a0 : Nat} {a1 : Int32} {a2 : Int32} {a3 : Int32} {q : Int32} (ha0 : a0 < shX.1 ∧ shX.2.1 a0 = 10) (hf : fX10_rest a0 a1 a2 a3 S = some q) : Mt l yX10_rest cX10_rest 6 (some .int) (3) G shX L S [.ref (ad L a0), .int a1, .int a2, .int a3] (some (.int q)) S := by
  refine m_enter (lv := [(0, .ref (ad L a0)), (1, .int a1), (2, .int a2), (3, .int a3)]) (plainFor_of_name (by decide)) (Nat.le_of_ble_eq_true rfl) rfl ?_
  intro p e s m below meth c A ls C hW hl
  unfold fX10_rest at hf
  refine lv_aload_n C.1 C.2.1 dX10_rest_0 rfl (lv_at hl 0 rfl) ?_
  refine lv_iload_n C.1 C.2.1 dX10_rest_1 rfl (lv_at hl 1 rfl) ?_
  obtain ⟨q6, h7, hf⟩ := bd hf
  refine m_callV (As := [.int a1]) (rest := []) C hW ha0 (cX10_isMan_ok  ha0 h7) mlX10_201 (by decide) rfl hl.1 rfl (Nat.le_of_ble_eq_true rfl) (Nat.le_of_ble_eq_true rfl) (Nat.le_of_ble_eq_true rfl) dX10_rest_2 (fun H locs hW => ?_)
  refine lv_if_eq (tgt := 25) C.1 C.2.1 dX10_rest_5 rfl (fun c8 => ?_) (fun c8 => ?_)
  · have hf := (if_pos c8).symm.trans hf
    refine lv_iconst C.1 C.2.1 dX10_rest_25 ic_m1 ?_
    cases hf
    exact m_iret C hW dX10_rest_26
  · have hf := (if_neg c8).symm.trans hf
    refine lv_aload_n C.1 C.2.1 dX10_rest_8 rfl (lv_at hl 0 rfl) ?_
    refine lv_iload_n C.1 C.2.1 dX10_rest_9 rfl (lv_at hl 2 rfl) ?_
    obtain ⟨q9, h10, hf⟩ := bd hf
    refine m_callV (As := [.int a2]) (rest := []) C hW ha0 (cX10_isMan_ok  ha0 h10) mlX10_201 (by decide) rfl hl.1 rfl (Nat.le_of_ble_eq_true rfl) (Nat.le_of_ble_eq_true rfl) (Nat.le_of_ble_eq_true rfl) dX10_rest_10 (fun H locs hW => ?_)
    refine lv_if_eq (tgt := 25) C.1 C.2.1 dX10_rest_13 rfl (fun c11 => ?_) (fun c11 => ?_)
    · have hf := (if_pos c11).symm.trans hf
      refine lv_iconst C.1 C.2.1 dX10_rest_25 ic_m1 ?_
      cases hf
      exact m_iret C hW dX10_rest_26
    · have hf := (if_neg c11).symm.trans hf
      refine lv_iload_n C.1 C.2.1 dX10_rest_16 rfl (lv_at hl 1 rfl) ?_
      refine lv_iload_n C.1 C.2.1 dX10_rest_17 rfl (lv_at hl 2 rfl) ?_
      refine lv_icmp_eq (tgt := 25) C.1 C.2.1 dX10_rest_18 rfl (fun c12 => ?_) (fun c12 => ?_)
      · have hf := (if_pos c12).symm.trans hf
        refine lv_iconst C.1 C.2.1 dX10_rest_25 ic_m1 ?_
        cases hf
        exact m_iret C hW dX10_rest_26
      · have hf := (if_neg c12).symm.trans hf
        refine lv_iload_n C.1 C.2.1 dX10_rest_21 rfl (lv_at hl 3 rfl) ?_
        refine lv_if_ge (tgt := 27) C.1 C.2.1 dX10_rest_22 rfl (fun c13 => ?_) (fun c13 => ?_)
        · have hf := (if_pos c13).symm.trans hf
          refine lv_iconst C.1 C.2.1 dX10_rest_27 ic_0 ?_
          refine lv_istore (lv' := [(4, .int (0 : Int32)), (0, .ref (ad L a0)), (1, .int a1), (2, .int a2), (3, .int a3)]) C.1 C.2.1 dX10_rest_28 hl (by decide) rfl (fun ls hl => ?_)
          refine lv_iconst C.1 C.2.1 dX10_rest_30 ic_0 ?_
          refine lv_istore (lv' := [(5, .int (0 : Int32)), (4, .int (0 : Int32)), (0, .ref (ad L a0)), (1, .int a1), (2, .int a2), (3, .int a3)]) C.1 C.2.1 dX10_rest_31 hl (by decide) rfl (fun ls hl => ?_)
          exact kX10_rest_33  C 1000 a0 a1 a2 a3 (0 : Int32) (0 : Int32) _ _ _ ha0 hW (lv_sub hl [2, 3, 4, 5, 1, 0] rfl) hf
        · have hf := (if_neg c13).symm.trans hf
          refine lv_iconst C.1 C.2.1 dX10_rest_25 ic_m1 ?_
          cases hf
          exact m_iret C hW dX10_rest_26

