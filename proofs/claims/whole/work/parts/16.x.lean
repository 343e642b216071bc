def fX5_readLine_150  (x0 : Nat) (S : MS) : Option MS := (fX5_expect  x0 (4 : Int32) S).bind fun q1 => some (pI q1 x0 18 ((gI q1 x0 18) + (1 : Int32)))
def fX5_readLine (a0 : Nat) (S : MS) : Option MS := (if gI S a0 5 = (20 : Int32) then (fX5_readRoom  a0 S).bind fun q4 => fX5_readLine_150  a0 q4 else if gI S a0 5 = (21 : Int32) then (fX5_readHer  a0 S).bind fun q7 => fX5_readLine_150  a0 q7 else if gI S a0 5 = (22 : Int32) then (fX5_readWall  a0 S).bind fun q10 => fX5_readLine_150  a0 q10 else if gI S a0 5 = (23 : Int32) then (fX5_readSun  a0 S).bind fun q13 => fX5_readLine_150  a0 q13 else if gI S a0 5 = (24 : Int32) then (fX5_readLamp  a0 S).bind fun q16 => fX5_readLine_150  a0 q16 else if gI S a0 5 = (25 : Int32) then (fX5_readStep  a0 S).bind fun q19 => fX5_readLine_150  a0 q19 else if gI S a0 5 = (26 : Int32) then (fX5_readDoing  a0 S).bind fun q22 => fX5_readLine_150  a0 q22 else if gI S a0 5 = (27 : Int32) then (fX5_readMan  a0 S).bind fun q25 => fX5_readLine_150  a0 q25 else if gI S a0 5 = (28 : Int32) then (fX5_readCloud  a0 S).bind fun q28 => fX5_readLine_150  a0 q28 else if gI S a0 5 = (29 : Int32) then (fX5_readSeed  a0 S).bind fun q31 => fX5_readLine_150  a0 q31 else if gI S a0 5 = (30 : Int32) then (fX5_readLaw  a0 S).bind fun q34 => fX5_readLine_150  a0 q34 else (fX5_fail  a0 (1 : Int32) (gI S a0 7) S).bind fun q36 => fX5_readLine_150  a0 q36)
set_option maxRecDepth 100000 in
theorem kX5_readLine_150 {p : Program} {l : Launch} {e : Env} {s : State} {m : MethodId} {av : Array Value} {below : List Frame} {meth : Method} {c : Code} {A : Nat → Prop} {G : Gv} {L : List Nat} {q : MS}  (C : mC p s m av meth c cX5_readLine RX5 1 none) : ∀ (x0 : Nat) (S : MS) (H : Heap) (locs : List Loc) (ls : Array Slot), (x0 < shX.1 ∧ shX.2.1 x0 = 5) → mW G shX L S A s H locs → lv_has ls 1 [(0, .ref (ad L x0))] → fX5_readLine_150  x0 S = some q → W p l e (rmd (7)) s m av below meth c H locs 0 0 (MQ below (mQ G shX L q none A) av s 0 0 A) (F0 m 150 ls []) := by
  intro x0 S H locs ls hx0 hW hl hf
  unfold fX5_readLine_150 at hf
  refine lv_aload_n C.1 C.2.1 dX5_readLine_150 rfl (lv_at hl 0 rfl) ?_
  refine lv_iconst C.1 C.2.1 dX5_readLine_151 ic_4 ?_
  obtain ⟨q1, h2, hf⟩ := bd hf
  refine m_callV (As := [.int (4 : Int32)]) (rest := []) C hW hx0 (cX5_expect_ok  hx0 h2) mlX5_130 (by decide) rfl hl.1 rfl (Nat.le_of_ble_eq_true rfl) (Nat.le_of_ble_eq_true rfl) (Nat.le_of_ble_eq_true rfl) dX5_readLine_152 (fun H locs hW => ?_)
  refine lv_aload_n C.1 C.2.1 dX5_readLine_155 rfl (lv_at hl 0 rfl) ?_
  refine lv_dup C.1 C.2.1 dX5_readLine_156 rfl ?_
  refine m_geti C hW hx0 flX5_84 dX5_readLine_157 ?_
  refine lv_iconst C.1 C.2.1 dX5_readLine_160 ic_1 ?_
  refine lv_iadd C.1 C.2.1 dX5_readLine_161 ?_
  refine m_puti C hW hx0 fpX5_84 dX5_readLine_162 (fun H locs hW => ?_)
  cases hf
  exact m_vret C hW dX5_readLine_165

set_option maxRecDepth 100000 in
theorem cX5_readLine_ok {l : Launch} {G : Gv} {L : List Nat} {S : MS} {a0 : Nat} {q : MS} (ha0 : a0 < shX.1 ∧ shX.2.1 a0 = 5) (hf : fX5_readLine a0 S = some q) : Mt l yX5_readLine cX5_readLine 1 none (7) G shX L S [.ref (ad L a0)] none q := by
  refine m_enter (lv := [(0, .ref (ad L a0))]) (plainFor_of_name (by decide)) (Nat.le_of_ble_eq_true rfl) rfl ?_
  intro p e s m below meth c A ls C hW hl
  unfold fX5_readLine at hf
  refine lv_aload_n C.1 C.2.1 dX5_readLine_0 rfl (lv_at hl 0 rfl) ?_
  refine m_geti C hW ha0 flX5_90 dX5_readLine_1 ?_
  by_cases c3 : gI S a0 5 = (20 : Int32)
  · have hf := (if_pos c3).symm.trans hf
    refine lv_tableIn (tgt := 64) C.1 C.2.1 dX5_readLine_4 (by rw [c3]; decide) (by rw [c3]; decide) (by rw [c3]; rfl) rfl ?_
    refine lv_aload_n C.1 C.2.1 dX5_readLine_64 rfl (lv_at hl 0 rfl) ?_
    obtain ⟨q4, h5, hf⟩ := bd hf
    refine m_callV (As := []) (rest := []) C hW ha0 (cX5_readRoom_ok  ha0 h5) mlX5_97 (by decide) rfl hl.1 rfl (Nat.le_of_ble_eq_true rfl) (Nat.le_of_ble_eq_true rfl) (Nat.le_of_ble_eq_true rfl) dX5_readLine_65 (fun H locs hW => ?_)
    refine lv_goto (tgt := 150) C.1 C.2.1 dX5_readLine_68 rfl ?_
    exact kX5_readLine_150  C a0 _ _ _ _ ha0 hW (lv_sub hl [0] rfl) hf
  have hf := (if_neg c3).symm.trans hf
  by_cases c6 : gI S a0 5 = (21 : Int32)
  · have hf := (if_pos c6).symm.trans hf
    refine lv_tableIn (tgt := 71) C.1 C.2.1 dX5_readLine_4 (by rw [c6]; decide) (by rw [c6]; decide) (by rw [c6]; rfl) rfl ?_
    refine lv_aload_n C.1 C.2.1 dX5_readLine_71 rfl (lv_at hl 0 rfl) ?_
    obtain ⟨q7, h8, hf⟩ := bd hf
    refine m_callV (As := []) (rest := []) C hW ha0 (cX5_readHer_ok  ha0 h8) mlX5_100 (by decide) rfl hl.1 rfl (Nat.le_of_ble_eq_true rfl) (Nat.le_of_ble_eq_true rfl) (Nat.le_of_ble_eq_true rfl) dX5_readLine_72 (fun H locs hW => ?_)
    refine lv_goto (tgt := 150) C.1 C.2.1 dX5_readLine_75 rfl ?_
    exact kX5_readLine_150  C a0 _ _ _ _ ha0 hW (lv_sub hl [0] rfl) hf
  have hf := (if_neg c6).symm.trans hf
  by_cases c9 : gI S a0 5 = (22 : Int32)
  · have hf := (if_pos c9).symm.trans hf
    refine lv_tableIn (tgt := 78) C.1 C.2.1 dX5_readLine_4 (by rw [c9]; decide) (by rw [c9]; decide) (by rw [c9]; rfl) rfl ?_
    refine lv_aload_n C.1 C.2.1 dX5_readLine_78 rfl (lv_at hl 0 rfl) ?_
    obtain ⟨q10, h11, hf⟩ := bd hf
    refine m_callV (As := []) (rest := []) C hW ha0 (cX5_readWall_ok  ha0 h11) mlX5_103 (by decide) rfl hl.1 rfl (Nat.le_of_ble_eq_true rfl) (Nat.le_of_ble_eq_true rfl) (Nat.le_of_ble_eq_true rfl) dX5_readLine_79 (fun H locs hW => ?_)
    refine lv_goto (tgt := 150) C.1 C.2.1 dX5_readLine_82 rfl ?_
    exact kX5_readLine_150  C a0 _ _ _ _ ha0 hW (lv_sub hl [0] rfl) hf
  have hf := (if_neg c9).symm.trans hf
  by_cases c12 : gI S a0 5 = (23 : Int32)
  · have hf := (if_pos c12).symm.trans hf
    refine lv_tableIn (tgt := 85) C.1 C.2.1 dX5_readLine_4 (by rw [c12]; decide) (by rw [c12]; decide) (by rw [c12]; rfl) rfl ?_
    refine lv_aload_n C.1 C.2.1 dX5_readLine_85 rfl (lv_at hl 0 rfl) ?_
    obtain ⟨q13, h14, hf⟩ := bd hf
    refine m_callV (As := []) (rest := []) C hW ha0 (cX5_readSun_ok  ha0 h14) mlX5_106 (by decide) rfl hl.1 rfl (Nat.le_of_ble_eq_true rfl) (Nat.le_of_ble_eq_true rfl) (Nat.le_of_ble_eq_true rfl) dX5_readLine_86 (fun H locs hW => ?_)
    refine lv_goto (tgt := 150) C.1 C.2.1 dX5_readLine_89 rfl ?_
    exact kX5_readLine_150  C a0 _ _ _ _ ha0 hW (lv_sub hl [0] rfl) hf
  have hf := (if_neg c12).symm.trans hf
  by_cases c15 : gI S a0 5 = (24 : Int32)
  · have hf := (if_pos c15).symm.trans hf
    refine lv_tableIn (tgt := 92) C.1 C.2.1 dX5_readLine_4 (by rw [c15]; decide) (by rw [c15]; decide) (by rw [c15]; rfl) rfl ?_
    refine lv_aload_n C.1 C.2.1 dX5_readLine_92 rfl (lv_at hl 0 rfl) ?_
    obtain ⟨q16, h17, hf⟩ := bd hf
    refine m_callV (As := []) (rest := []) C hW ha0 (cX5_readLamp_ok  ha0 h17) mlX5_109 (by decide) rfl hl.1 rfl (Nat.le_of_ble_eq_true rfl) (Nat.le_of_ble_eq_true rfl) (Nat.le_of_ble_eq_true rfl) dX5_readLine_93 (fun H locs hW => ?_)
    refine lv_goto (tgt := 150) C.1 C.2.1 dX5_readLine_96 rfl ?_
    exact kX5_readLine_150  C a0 _ _ _ _ ha0 hW (lv_sub hl [0] rfl) hf
  have hf := (if_neg c15).symm.trans hf
  by_cases c18 : gI S a0 5 = (25 : Int32)
  · have hf := (if_pos c18).symm.trans hf
    refine lv_tableIn (tgt := 99) C.1 C.2.1 dX5_readLine_4 (by rw [c18]; decide) (by rw [c18]; decide) (by rw [c18]; rfl) rfl ?_
    refine lv_aload_n C.1 C.2.1 dX5_readLine_99 rfl (lv_at hl 0 rfl) ?_
    obtain ⟨q19, h20, hf⟩ := bd hf
    refine m_callV (As := []) (rest := []) C hW ha0 (cX5_readStep_ok  ha0 h20) mlX5_112 (by decide) rfl hl.1 rfl (Nat.le_of_ble_eq_true rfl) (Nat.le_of_ble_eq_true rfl) (Nat.le_of_ble_eq_true rfl) dX5_readLine_100 (fun H locs hW => ?_)
    refine lv_goto (tgt := 150) C.1 C.2.1 dX5_readLine_103 rfl ?_
    exact kX5_readLine_150  C a0 _ _ _ _ ha0 hW (lv_sub hl [0] rfl) hf
  have hf := (if_neg c18).symm.trans hf
  by_cases c21 : gI S a0 5 = (26 : Int32)
  · have hf := (if_pos c21).symm.trans hf
    refine lv_tableIn (tgt := 106) C.1 C.2.1 dX5_readLine_4 (by rw [c21]; decide) (by rw [c21]; decide) (by rw [c21]; rfl) rfl ?_
    refine lv_aload_n C.1 C.2.1 dX5_readLine_106 rfl (lv_at hl 0 rfl) ?_
    obtain ⟨q22, h23, hf⟩ := bd hf
    refine m_callV (As := []) (rest := []) C hW ha0 (cX5_readDoing_ok  ha0 h23) mlX5_115 (by decide) rfl hl.1 rfl (Nat.le_of_ble_eq_true rfl) (Nat.le_of_ble_eq_true rfl) (Nat.le_of_ble_eq_true rfl) dX5_readLine_107 (fun H locs hW => ?_)
    refine lv_goto (tgt := 150) C.1 C.2.1 dX5_readLine_110 rfl ?_
    exact kX5_readLine_150  C a0 _ _ _ _ ha0 hW (lv_sub hl [0] rfl) hf
  have hf := (if_neg c21).symm.trans hf
  by_cases c24 : gI S a0 5 = (27 : Int32)
  · have hf := (if_pos c24).symm.trans hf
    refine lv_tableIn (tgt := 113) C.1 C.2.1 dX5_readLine_4 (by rw [c24]; decide) (by rw [c24]; decide) (by rw [c24]; rfl) rfl ?_
    refine lv_aload_n C.1 C.2.1 dX5_readLine_113 rfl (lv_at hl 0 rfl) ?_
    obtain ⟨q25, h26, hf⟩ := bd hf
    refine m_callV (As := []) (rest := []) C hW ha0 (cX5_readMan_ok  ha0 h26) mlX5_118 (by decide) rfl hl.1 rfl (Nat.le_of_ble_eq_true rfl) (Nat.le_of_ble_eq_true rfl) (Nat.le_of_ble_eq_true rfl) dX5_readLine_114 (fun H locs hW => ?_)
    refine lv_goto (tgt := 150) C.1 C.2.1 dX5_readLine_117 rfl ?_
    exact kX5_readLine_150  C a0 _ _ _ _ ha0 hW (lv_sub hl [0] rfl) hf
  have hf := (if_neg c24).symm.trans hf
  by_cases c27 : gI S a0 5 = (28 : Int32)
  · have hf := (if_pos c27).symm.trans hf
    refine lv_tableIn (tgt := 120) C.1 C.2.1 dX5_readLine_4 (by rw [c27]; decide) (by rw [c27]; decide) (by rw [c27]; rfl) rfl ?_
    refine lv_aload_n C.1 C.2.1 dX5_readLine_120 rfl (lv_at hl 0 rfl) ?_
    obtain ⟨q28, h29, hf⟩ := bd hf
    refine m_callV (As := []) (rest := []) C hW ha0 (cX5_readCloud_ok  ha0 h29) mlX5_121 (by decide) rfl hl.1 rfl (Nat.le_of_ble_eq_true rfl) (Nat.le_of_ble_eq_true rfl) (Nat.le_of_ble_eq_true rfl) dX5_readLine_121 (fun H locs hW => ?_)
    refine lv_goto (tgt := 150) C.1 C.2.1 dX5_readLine_124 rfl ?_
    exact kX5_readLine_150  C a0 _ _ _ _ ha0 hW (lv_sub hl [0] rfl) hf
  have hf := (if_neg c27).symm.trans hf
  by_cases c30 : gI S a0 5 = (29 : Int32)
  · have hf := (if_pos c30).symm.trans hf
    refine lv_tableIn (tgt := 127) C.1 C.2.1 dX5_readLine_4 (by rw [c30]; decide) (by rw [c30]; decide) (by rw [c30]; rfl) rfl ?_
    refine lv_aload_n C.1 C.2.1 dX5_readLine_127 rfl (lv_at hl 0 rfl) ?_
    obtain ⟨q31, h32, hf⟩ := bd hf
    refine m_callV (As := []) (rest := []) C hW ha0 (cX5_readSeed_ok  ha0 h32) mlX5_124 (by decide) rfl hl.1 rfl (Nat.le_of_ble_eq_true rfl) (Nat.le_of_ble_eq_true rfl) (Nat.le_of_ble_eq_true rfl) dX5_readLine_128 (fun H locs hW => ?_)
    refine lv_goto (tgt := 150) C.1 C.2.1 dX5_readLine_131 rfl ?_
    exact kX5_readLine_150  C a0 _ _ _ _ ha0 hW (lv_sub hl [0] rfl) hf
  have hf := (if_neg c30).symm.trans hf
  by_cases c33 : gI S a0 5 = (30 : Int32)
  · have hf := (if_pos c33).symm.trans hf
    refine lv_tableIn (tgt := 134) C.1 C.2.1 dX5_readLine_4 (by rw [c33]; decide) (by rw [c33]; decide) (by rw [c33]; rfl) rfl ?_
    refine lv_aload_n C.1 C.2.1 dX5_readLine_134 rfl (lv_at hl 0 rfl) ?_
    obtain ⟨q34, h35, hf⟩ := bd hf
    refine m_callV (As := []) (rest := []) C hW ha0 (cX5_readLaw_ok  ha0 h35) mlX5_127 (by decide) rfl hl.1 rfl (Nat.le_of_ble_eq_true rfl) (Nat.le_of_ble_eq_true rfl) (Nat.le_of_ble_eq_true rfl) dX5_readLine_135 (fun H locs hW => ?_)
    refine lv_goto (tgt := 150) C.1 C.2.1 dX5_readLine_138 rfl ?_
    exact kX5_readLine_150  C a0 _ _ _ _ ha0 hW (lv_sub hl [0] rfl) hf
  have hf := (if_neg c33).symm.trans hf
  by_cases ho38 : (gI S a0 5).toInt < 20 ∨ 30 < (gI S a0 5).toInt
  · refine lv_tableOut (tgt := 141) C.1 C.2.1 dX5_readLine_4 ho38 rfl ?_
    refine lv_aload_n C.1 C.2.1 dX5_readLine_141 rfl (lv_at hl 0 rfl) ?_
    refine lv_iconst C.1 C.2.1 dX5_readLine_142 ic_1 ?_
    refine lv_aload_n C.1 C.2.1 dX5_readLine_143 rfl (lv_at hl 0 rfl) ?_
    refine m_geti C hW ha0 flX5_62 dX5_readLine_144 ?_
    obtain ⟨q36, h37, hf⟩ := bd hf
    refine m_callV (As := [.int (1 : Int32), .int (gI S a0 7)]) (rest := []) C hW ha0 (cX5_fail_ok  ha0 h37) mlX5_93 (by decide) rfl hl.1 rfl (Nat.le_of_ble_eq_true rfl) (Nat.le_of_ble_eq_true rfl) (Nat.le_of_ble_eq_true rfl) dX5_readLine_147 (fun H locs hW => ?_)
    exact kX5_readLine_150  C a0 _ _ _ _ ha0 hW (lv_sub hl [0] rfl) hf
  · exfalso
    have := tn_e c3 (20) (by decide)
    have := tn_e c6 (21) (by decide)
    have := tn_e c9 (22) (by decide)
    have := tn_e c12 (23) (by decide)
    have := tn_e c15 (24) (by decide)
    have := tn_e c18 (25) (by decide)
    have := tn_e c21 (26) (by decide)
    have := tn_e c24 (27) (by decide)
    have := tn_e c27 (28) (by decide)
    have := tn_e c30 (29) (by decide)
    have := tn_e c33 (30) (by decide)
    omega

def fX10_go_35  (x0 : Nat) (x1 : Int32) (S : MS) : Option (Int32 × MS) := (fX0_passAll  (gR S x0 4) (gR S x0 9) x1 (1 : Int32) S).bind fun q3 => some (gI q3 (gR q3 x0 9) 3, q3)
def fX10_go (a0 : Nat) (a1 : Int32) (S : MS) : Option (Int32 × MS) := (fX10_areHours  a1 S).bind fun q6 => (if q6 = (0 : Int32) then some ((-1 : Int32), S) else (if ((gI S (gR S a0 9) 3) + a1) ≤ (9900 : Int32) then (if a1 ≤ (0 : Int32) then fX10_go_35  a0 a1 S else (fX2_forget  (gR S a0 7) S).bind fun q13 => fX10_go_35  a0 a1 q13) else some ((-1 : Int32), S)))
set_option maxRecDepth 100000 in
theorem kX10_go_35 {p : Program} {l : Launch} {e : Env} {s : State} {m : MethodId} {av : Array Value} {below : List Frame} {meth : Method} {c : Code} {A : Nat → Prop} {G : Gv} {L : List Nat} {q : (Int32 × MS)}  (C : mC p s m av meth c cX10_go RX10 2 (some .int)) : ∀ (x0 : Nat) (x1 : Int32) (S : MS) (H : Heap) (locs : List Loc) (ls : Array Slot), (x0 < shX.1 ∧ shX.2.1 x0 = 10) → mW G shX L S A s H locs → lv_has ls 2 [(0, .ref (ad L x0)), (1, .int x1)] → fX10_go_35  x0 x1 S = some q → W p l e (rmd (7)) s m av below meth c H locs 0 0 (MQ below (mQ G shX L q.2 (some (.int q.1)) A) av s 0 0 A) (F0 m 35 ls []) := by
  intro x0 x1 S H locs ls hx0 hW hl hf
  unfold fX10_go_35 at hf
  refine lv_aload_n C.1 C.2.1 dX10_go_35 rfl (lv_at hl 0 rfl) ?_
  refine m_getr C hW hx0 flX10_35 (by decide) dX10_go_36 (fun hk1 => ?_)
  refine lv_aload_n C.1 C.2.1 dX10_go_39 rfl (lv_at hl 0 rfl) ?_
  refine m_getr C hW hx0 flX10_72 (by decide) dX10_go_40 (fun hk2 => ?_)
  refine lv_iload_n C.1 C.2.1 dX10_go_43 rfl (lv_at hl 1 rfl) ?_
  refine lv_iconst C.1 C.2.1 dX10_go_44 ic_1 ?_
  obtain ⟨q3, h4, hf⟩ := bd hf
  refine m_callV (As := [.ref (ad L (gR S x0 9)), .int x1, .int (1 : Int32)]) (rest := []) C hW hk1 (cX0_passAll_ok  hk1 hk2 h4) mlX10_261 (by decide) rfl hl.1 rfl (Nat.le_of_ble_eq_true rfl) (Nat.le_of_ble_eq_true rfl) (Nat.le_of_ble_eq_true rfl) dX10_go_45 (fun H locs hW => ?_)
  refine lv_aload_n C.1 C.2.1 dX10_go_48 rfl (lv_at hl 0 rfl) ?_
  refine m_getr C hW hx0 flX10_72 (by decide) dX10_go_49 (fun hk5 => ?_)
  refine m_geti C hW hk5 flX10_258 dX10_go_52 ?_
  cases hf
  exact m_iret C hW dX10_go_55

set_option maxRecDepth 100000 in
theorem cX10_go_ok {l : Launch} {G : Gv} {L : List Nat} {S : MS} {a0 : Nat} {a1 : Int32} {q : (Int32 × MS)} (ha0 : a0 < shX.1 ∧ shX.2.1 a0 = 10) (hf : fX10_go a0 a1 S = some q) : Mt l yX10_go cX10_go 2 (some .int) (7) G shX L S [.ref (ad L a0), .int a1] (some (.int q.1)) q.2 := by
  refine m_enter (lv := [(0, .ref (ad L a0)), (1, .int a1)]) (plainFor_of_name (by decide)) (Nat.le_of_ble_eq_true rfl) rfl ?_
  intro p e s m below meth c A ls C hW hl
  unfold fX10_go at hf
  refine lv_iload_n C.1 C.2.1 dX10_go_0 rfl (lv_at hl 1 rfl) ?_
  obtain ⟨q6, h7, hf⟩ := bd hf
  refine m_callS (As := [.int a1]) (rest := []) C hW (cX10_areHours_ok   h7) mlX10_255 rfl hl.1 rfl (Nat.le_of_ble_eq_true rfl) (Nat.le_of_ble_eq_true rfl) (Nat.le_of_ble_eq_true rfl) dX10_go_1 (fun H locs hW => ?_)
  refine lv_if_eq (tgt := 22) C.1 C.2.1 dX10_go_4 rfl (fun c8 => ?_) (fun c8 => ?_)
  · have hf := (if_pos c8).symm.trans hf
    refine lv_iconst C.1 C.2.1 dX10_go_22 ic_m1 ?_
    cases hf
    exact m_iret C hW dX10_go_23
  · have hf := (if_neg c8).symm.trans hf
    refine lv_aload_n C.1 C.2.1 dX10_go_7 rfl (lv_at hl 0 rfl) ?_
    refine m_getr C hW ha0 flX10_72 (by decide) dX10_go_8 (fun hk9 => ?_)
    refine m_geti C hW hk9 flX10_258 dX10_go_11 ?_
    refine lv_iload_n C.1 C.2.1 dX10_go_14 rfl (lv_at hl 1 rfl) ?_
    refine lv_iadd C.1 C.2.1 dX10_go_15 ?_
    refine lv_sipush C.1 C.2.1 dX10_go_16 sp_9900 ?_
    refine lv_icmp_le (tgt := 24) C.1 C.2.1 dX10_go_19 rfl (fun c10 => ?_) (fun c10 => ?_)
    · have hf := (if_pos c10).symm.trans hf
      refine lv_iload_n C.1 C.2.1 dX10_go_24 rfl (lv_at hl 1 rfl) ?_
      refine lv_if_le (tgt := 35) C.1 C.2.1 dX10_go_25 rfl (fun c11 => ?_) (fun c11 => ?_)
      · have hf := (if_pos c11).symm.trans hf
        exact kX10_go_35  C a0 a1 _ _ _ _ ha0 hW (lv_sub hl [0, 1] rfl) hf
      · have hf := (if_neg c11).symm.trans hf
        refine lv_aload_n C.1 C.2.1 dX10_go_28 rfl (lv_at hl 0 rfl) ?_
        refine m_getr C hW ha0 flX10_58 (by decide) dX10_go_29 (fun hk12 => ?_)
        obtain ⟨q13, h14, hf⟩ := bd hf
        refine m_callV (As := []) (rest := []) C hW hk12 (cX2_forget_ok  hk12 h14) mlX10_137 (by decide) rfl hl.1 rfl (Nat.le_of_ble_eq_true rfl) (Nat.le_of_ble_eq_true rfl) (Nat.le_of_ble_eq_true rfl) dX10_go_32 (fun H locs hW => ?_)
        exact kX10_go_35  C a0 a1 _ _ _ _ ha0 hW (lv_sub hl [0, 1] rfl) hf
    · have hf := (if_neg c10).symm.trans hf
      refine lv_iconst C.1 C.2.1 dX10_go_22 ic_m1 ?_
      cases hf
      exact m_iret C hW dX10_go_23

def fX10_ahead (a0 : Nat) (a1 : Int32) (a2 : Int32) (S : MS) : Option (Int32 × MS) := (fX10_areHours  a1 S).bind fun q1 => (if q1 = (0 : Int32) then some ((-1 : Int32), S) else (if a2 < (0 : Int32) then some ((-1 : Int32), S) else (if a2 ≤ (4 : Int32) then (fX9_become  (gR S a0 11) (gR S a0 9) S).bind fun q8 => (fX0_passAll  (gR q8 a0 4) (gR q8 a0 11) a1 (0 : Int32) q8).bind fun q12 => (if a2 = (0 : Int32) then (fJ6_bitCount_0f7a4  (gI q12 (gR q12 a0 11) 8) q12).bind fun q16 => (fJ6_bitCount_0f7a4  (gI q12 (gR q12 a0 9) 8) q12).bind fun q19 => some (q16 - q19, q12) else if a2 = (1 : Int32) then (fX8_worthOf  (gR q12 a0 1) (gI q12 (gR q12 a0 11) 8) q12).bind fun q24 => (fX8_worthOf  (gR q12 a0 1) (gI q12 (gR q12 a0 9) 8) q12).bind fun q28 => some (q24 - q28, q12) else if a2 = (2 : Int32) then some ((gI q12 (gR q12 a0 11) 9) - (gI q12 (gR q12 a0 9) 9), q12) else if a2 = (3 : Int32) then (fX9_fondInAll  (gR q12 a0 11) q12).bind fun q35 => (fX9_fondInAll  (gR q12 a0 9) q12).bind fun q38 => some (q35 - q38, q12) else some ((gI q12 (gR q12 a0 11) 10) - (gI q12 (gR q12 a0 9) 10), q12)) else some ((-1 : Int32), S))))
set_option maxRecDepth 100000 in
theorem cX10_ahead_ok {l : Launch} {G : Gv} {L : List Nat} {S : MS} {a0 : Nat} {a1 : Int32} {a2 : Int32} {q : (Int32 × MS)} (ha0 : a0 < shX.1 ∧ shX.2.1 a0 = 10) (hf : fX10_ahead a0 a1 a2 S = some q) : Mt l yX10_ahead cX10_ahead 3 (some .int) (7) G shX L S [.ref (ad L a0), .int a1, .int a2] (some (.int q.1)) q.2 := by
  refine m_enter (lv := [(0, .ref (ad L a0)), (1, .int a1), (2, .int a2)]) (plainFor_of_name (by decide)) (Nat.le_of_ble_eq_true rfl) rfl ?_
  intro p e s m below meth c A ls C hW hl
  unfold fX10_ahead at hf
  refine lv_iload_n C.1 C.2.1 dX10_ahead_0 rfl (lv_at hl 1 rfl) ?_
  obtain ⟨q1, h2, hf⟩ := bd hf
  refine m_callS (As := [.int a1]) (rest := []) C hW (cX10_areHours_ok   h2) mlX10_255 rfl hl.1 rfl (Nat.le_of_ble_eq_true rfl) (Nat.le_of_ble_eq_true rfl) (Nat.le_of_ble_eq_true rfl) dX10_ahead_1 (fun H locs hW => ?_)
  refine lv_if_eq (tgt := 16) C.1 C.2.1 dX10_ahead_4 rfl (fun c3 => ?_) (fun c3 => ?_)
  · have hf := (if_pos c3).symm.trans hf
    refine lv_iconst C.1 C.2.1 dX10_ahead_16 ic_m1 ?_
    cases hf
    exact m_iret C hW dX10_ahead_17
  · have hf := (if_neg c3).symm.trans hf
    refine lv_iload_n C.1 C.2.1 dX10_ahead_7 rfl (lv_at hl 2 rfl) ?_
    refine lv_if_lt (tgt := 16) C.1 C.2.1 dX10_ahead_8 rfl (fun c4 => ?_) (fun c4 => ?_)
    · have hf := (if_pos c4).symm.trans hf
      refine lv_iconst C.1 C.2.1 dX10_ahead_16 ic_m1 ?_
      cases hf
      exact m_iret C hW dX10_ahead_17
    · have hf := (if_neg c4).symm.trans hf
      refine lv_iload_n C.1 C.2.1 dX10_ahead_11 rfl (lv_at hl 2 rfl) ?_
      refine lv_iconst C.1 C.2.1 dX10_ahead_12 ic_4 ?_
      refine lv_icmp_le (tgt := 18) C.1 C.2.1 dX10_ahead_13 rfl (fun c5 => ?_) (fun c5 => ?_)
      · have hf := (if_pos c5).symm.trans hf
        refine lv_aload_n C.1 C.2.1 dX10_ahead_18 rfl (lv_at hl 0 rfl) ?_
        refine m_getr C hW ha0 flX10_79 (by decide) dX10_ahead_19 (fun hk6 => ?_)
        refine lv_aload_n C.1 C.2.1 dX10_ahead_22 rfl (lv_at hl 0 rfl) ?_
        refine m_getr C hW ha0 flX10_72 (by decide) dX10_ahead_23 (fun hk7 => ?_)
        obtain ⟨q8, h9, hf⟩ := bd hf
        refine m_callV (As := [.ref (ad L (gR S a0 9))]) (rest := []) C hW hk6 (cX9_become_ok  hk6 hk7 h9) mlX10_264 (by decide) rfl hl.1 rfl (Nat.le_of_ble_eq_true rfl) (Nat.le_of_ble_eq_true rfl) (Nat.le_of_ble_eq_true rfl) dX10_ahead_26 (fun H locs hW => ?_)
        refine lv_aload_n C.1 C.2.1 dX10_ahead_29 rfl (lv_at hl 0 rfl) ?_
        refine m_getr C hW ha0 flX10_35 (by decide) dX10_ahead_30 (fun hk10 => ?_)
        refine lv_aload_n C.1 C.2.1 dX10_ahead_33 rfl (lv_at hl 0 rfl) ?_
        refine m_getr C hW ha0 flX10_79 (by decide) dX10_ahead_34 (fun hk11 => ?_)
        refine lv_iload_n C.1 C.2.1 dX10_ahead_37 rfl (lv_at hl 1 rfl) ?_
        refine lv_iconst C.1 C.2.1 dX10_ahead_38 ic_0 ?_
        obtain ⟨q12, h13, hf⟩ := bd hf
        refine m_callV (As := [.ref (ad L (gR q8 a0 11)), .int a1, .int (0 : Int32)]) (rest := []) C hW hk10 (cX0_passAll_ok  hk10 hk11 h13) mlX10_261 (by decide) rfl hl.1 rfl (Nat.le_of_ble_eq_true rfl) (Nat.le_of_ble_eq_true rfl) (Nat.le_of_ble_eq_true rfl) dX10_ahead_39 (fun H locs hW => ?_)
        refine lv_iload_n C.1 C.2.1 dX10_ahead_42 rfl (lv_at hl 2 rfl) ?_
        by_cases c14 : a2 = (0 : Int32)
        · have hf := (if_pos c14).symm.trans hf
          refine lv_tableIn (tgt := 72) C.1 C.2.1 dX10_ahead_43 (by rw [c14]; decide) (by rw [c14]; decide) (by rw [c14]; rfl) rfl ?_
          refine lv_aload_n C.1 C.2.1 dX10_ahead_72 rfl (lv_at hl 0 rfl) ?_
          refine m_getr C hW ha0 flX10_79 (by decide) dX10_ahead_73 (fun hk15 => ?_)
          refine m_geti C hW hk15 flX10_195 dX10_ahead_76 ?_
          obtain ⟨q16, h17, hf⟩ := bd hf
          refine m_callS (As := [.int (gI q12 (gR q12 a0 11) 8)]) (rest := []) C hW (cJ6_bitCount_0f7a4_ok   h17) mlX10_267 rfl hl.1 rfl (Nat.le_of_ble_eq_true rfl) (Nat.le_of_ble_eq_true rfl) (Nat.le_of_ble_eq_true rfl) dX10_ahead_79 (fun H locs hW => ?_)
          refine lv_aload_n C.1 C.2.1 dX10_ahead_82 rfl (lv_at hl 0 rfl) ?_
          refine m_getr C hW ha0 flX10_72 (by decide) dX10_ahead_83 (fun hk18 => ?_)
          refine m_geti C hW hk18 flX10_195 dX10_ahead_86 ?_
          obtain ⟨q19, h20, hf⟩ := bd hf
          refine m_callS (As := [.int (gI q12 (gR q12 a0 9) 8)]) (rest := [.int q16]) C hW (cJ6_bitCount_0f7a4_ok   h20) mlX10_267 rfl hl.1 rfl (Nat.le_of_ble_eq_true rfl) (Nat.le_of_ble_eq_true rfl) (Nat.le_of_ble_eq_true rfl) dX10_ahead_89 (fun H locs hW => ?_)
          refine lv_isub C.1 C.2.1 dX10_ahead_92 ?_
          cases hf
          exact m_iret C hW dX10_ahead_93
        have hf := (if_neg c14).symm.trans hf
        by_cases c21 : a2 = (1 : Int32)
        · have hf := (if_pos c21).symm.trans hf
          refine lv_tableIn (tgt := 94) C.1 C.2.1 dX10_ahead_43 (by rw [c21]; decide) (by rw [c21]; decide) (by rw [c21]; rfl) rfl ?_
          refine lv_aload_n C.1 C.2.1 dX10_ahead_94 rfl (lv_at hl 0 rfl) ?_
          refine m_getr C hW ha0 flX10_16 (by decide) dX10_ahead_95 (fun hk22 => ?_)
          refine lv_aload_n C.1 C.2.1 dX10_ahead_98 rfl (lv_at hl 0 rfl) ?_
          refine m_getr C hW ha0 flX10_79 (by decide) dX10_ahead_99 (fun hk23 => ?_)
          refine m_geti C hW hk23 flX10_195 dX10_ahead_102 ?_
          obtain ⟨q24, h25, hf⟩ := bd hf
          refine m_callV (As := [.int (gI q12 (gR q12 a0 11) 8)]) (rest := []) C hW hk22 (cX8_worthOf_ok  hk22 h25) mlX10_272 (by decide) rfl hl.1 rfl (Nat.le_of_ble_eq_true rfl) (Nat.le_of_ble_eq_true rfl) (Nat.le_of_ble_eq_true rfl) dX10_ahead_105 (fun H locs hW => ?_)
          refine lv_aload_n C.1 C.2.1 dX10_ahead_108 rfl (lv_at hl 0 rfl) ?_
          refine m_getr C hW ha0 flX10_16 (by decide) dX10_ahead_109 (fun hk26 => ?_)
          refine lv_aload_n C.1 C.2.1 dX10_ahead_112 rfl (lv_at hl 0 rfl) ?_
          refine m_getr C hW ha0 flX10_72 (by decide) dX10_ahead_113 (fun hk27 => ?_)
          refine m_geti C hW hk27 flX10_195 dX10_ahead_116 ?_
          obtain ⟨q28, h29, hf⟩ := bd hf
          refine m_callV (As := [.int (gI q12 (gR q12 a0 9) 8)]) (rest := [.int q24]) C hW hk26 (cX8_worthOf_ok  hk26 h29) mlX10_272 (by decide) rfl hl.1 rfl (Nat.le_of_ble_eq_true rfl) (Nat.le_of_ble_eq_true rfl) (Nat.le_of_ble_eq_true rfl) dX10_ahead_119 (fun H locs hW => ?_)
          refine lv_isub C.1 C.2.1 dX10_ahead_122 ?_
          cases hf
          exact m_iret C hW dX10_ahead_123
        have hf := (if_neg c21).symm.trans hf
        by_cases c30 : a2 = (2 : Int32)
        · have hf := (if_pos c30).symm.trans hf
          refine lv_tableIn (tgt := 124) C.1 C.2.1 dX10_ahead_43 (by rw [c30]; decide) (by rw [c30]; decide) (by rw [c30]; rfl) rfl ?_
          refine lv_aload_n C.1 C.2.1 dX10_ahead_124 rfl (lv_at hl 0 rfl) ?_
          refine m_getr C hW ha0 flX10_79 (by decide) dX10_ahead_125 (fun hk31 => ?_)
          refine m_geti C hW hk31 flX10_275 dX10_ahead_128 ?_
          refine lv_aload_n C.1 C.2.1 dX10_ahead_131 rfl (lv_at hl 0 rfl) ?_
          refine m_getr C hW ha0 flX10_72 (by decide) dX10_ahead_132 (fun hk32 => ?_)
          refine m_geti C hW hk32 flX10_275 dX10_ahead_135 ?_
          refine lv_isub C.1 C.2.1 dX10_ahead_138 ?_
          cases hf
          exact m_iret C hW dX10_ahead_139
        have hf := (if_neg c30).symm.trans hf
        by_cases c33 : a2 = (3 : Int32)
        · have hf := (if_pos c33).symm.trans hf
          refine lv_tableIn (tgt := 140) C.1 C.2.1 dX10_ahead_43 (by rw [c33]; decide) (by rw [c33]; decide) (by rw [c33]; rfl) rfl ?_
          refine lv_aload_n C.1 C.2.1 dX10_ahead_140 rfl (lv_at hl 0 rfl) ?_
          refine m_getr C hW ha0 flX10_79 (by decide) dX10_ahead_141 (fun hk34 => ?_)
          obtain ⟨q35, h36, hf⟩ := bd hf
          refine m_callV (As := []) (rest := []) C hW hk34 (cX9_fondInAll_ok  hk34 h36) mlX10_278 (by decide) rfl hl.1 rfl (Nat.le_of_ble_eq_true rfl) (Nat.le_of_ble_eq_true rfl) (Nat.le_of_ble_eq_true rfl) dX10_ahead_144 (fun H locs hW => ?_)
          refine lv_aload_n C.1 C.2.1 dX10_ahead_147 rfl (lv_at hl 0 rfl) ?_
          refine m_getr C hW ha0 flX10_72 (by decide) dX10_ahead_148 (fun hk37 => ?_)
          obtain ⟨q38, h39, hf⟩ := bd hf
          refine m_callV (As := []) (rest := [.int q35]) C hW hk37 (cX9_fondInAll_ok  hk37 h39) mlX10_278 (by decide) rfl hl.1 rfl (Nat.le_of_ble_eq_true rfl) (Nat.le_of_ble_eq_true rfl) (Nat.le_of_ble_eq_true rfl) dX10_ahead_151 (fun H locs hW => ?_)
          refine lv_isub C.1 C.2.1 dX10_ahead_154 ?_
          cases hf
          exact m_iret C hW dX10_ahead_155
        have hf := (if_neg c33).symm.trans hf
        by_cases ho42 : a2.toInt < 0 ∨ 3 < a2.toInt
        · refine lv_tableOut (tgt := 156) C.1 C.2.1 dX10_ahead_43 ho42 rfl ?_
          refine lv_aload_n C.1 C.2.1 dX10_ahead_156 rfl (lv_at hl 0 rfl) ?_
          refine m_getr C hW ha0 flX10_79 (by decide) dX10_ahead_157 (fun hk40 => ?_)
          refine m_geti C hW hk40 flX10_282 dX10_ahead_160 ?_
          refine lv_aload_n C.1 C.2.1 dX10_ahead_163 rfl (lv_at hl 0 rfl) ?_
          refine m_getr C hW ha0 flX10_72 (by decide) dX10_ahead_164 (fun hk41 => ?_)
          refine m_geti C hW hk41 flX10_282 dX10_ahead_167 ?_
          refine lv_isub C.1 C.2.1 dX10_ahead_170 ?_
          cases hf
          exact m_iret C hW dX10_ahead_171
        · exfalso
          have := tn_e c14 (0) (by decide)
          have := tn_e c21 (1) (by decide)
          have := tn_e c30 (2) (by decide)
          have := tn_e c33 (3) (by decide)
          omega
      · have hf := (if_neg c5).symm.trans hf
        refine lv_iconst C.1 C.2.1 dX10_ahead_16 ic_m1 ?_
        cases hf
        exact m_iret C hW dX10_ahead_17

def fX10_homes_87 (K22 : Nat → Int32 → Int32 → Int32 → MS → Option (Int32 × MS)) (K36 : Nat → Int32 → Int32 → Int32 → Int32 → MS → Option (Int32 × MS)) (x0 : Nat) (x1 : Int32) (x2 : Int32) (x3 : Int32) (x4 : Int32) (S : MS) : Option (Int32 × MS) := K36 x0 x1 x2 x3 (x4 + (1 : Int32)) S
def fX10_homes_36 (K22 : Nat → Int32 → Int32 → Int32 → MS → Option (Int32 × MS)) : Nat → Nat → Int32 → Int32 → Int32 → Int32 → MS → Option (Int32 × MS)
  | 0, _, _, _, _, _, _ => none
  | n + 1, x0, x1, x2, x3, x4, S => (if (gI S (gR S x0 1) 9) ≤ x4 then K22 x0 x1 x2 (x3 + (1 : Int32)) S else (fX8_isWall  (gR S x0 1) x3 x4 S).bind fun q4 => (if q4 = (0 : Int32) then (fX10_isHome  x0 x3 x4 S).bind fun q7 => (if q7.1 = (0 : Int32) then fX10_homes_87 K22 (fX10_homes_36 K22 n) x0 x1 x2 x3 x4 q7.2 else (if x1 = (1 : Int32) then some (((10 : Int32) * x3) + x4, q7.2) else fX10_homes_87 K22 (fX10_homes_36 K22 n) x0 x1 (x2 + (1 : Int32)) x3 x4 q7.2)) else fX10_homes_87 K22 (fX10_homes_36 K22 n) x0 x1 x2 x3 x4 S))
def fX10_homes_22  : Nat → Nat → Int32 → Int32 → Int32 → MS → Option (Int32 × MS)
  | 0, _, _, _, _, _ => none
  | n + 1, x0, x1, x2, x3, S => (if (gI S (gR S x0 1) 8) ≤ x3 then (if x1 = (0 : Int32) then some (x2, S) else some ((-2 : Int32), S)) else fX10_homes_36 (fX10_homes_22  n) 1000 x0 x1 x2 x3 (0 : Int32) S)
def fX10_homes (a0 : Nat) (a1 : Int32) (S : MS) : Option (Int32 × MS) := (if a1 < (0 : Int32) then some ((-1 : Int32), S) else (if a1 ≤ (1 : Int32) then (fX6_settle  (gR S a0 8) S).bind fun q17 => fX10_homes_22  1000 a0 a1 (0 : Int32) (0 : Int32) q17 else some ((-1 : Int32), S)))
set_option maxRecDepth 100000 in
theorem kX10_homes_87 {p : Program} {l : Launch} {e : Env} {s : State} {m : MethodId} {av : Array Value} {below : List Frame} {meth : Method} {c : Code} {A : Nat → Prop} {G : Gv} {L : List Nat} {q : (Int32 × MS)} {K22 : Nat → Int32 → Int32 → Int32 → MS → Option (Int32 × MS)} {K36 : Nat → Int32 → Int32 → Int32 → Int32 → MS → Option (Int32 × MS)} (hK22 : ∀ (x0 : Nat) (x1 : Int32) (x2 : Int32) (x3 : Int32) (S : MS) (H : Heap) (locs : List Loc) (ls : Array Slot), (x0 < shX.1 ∧ shX.2.1 x0 = 10) → mW G shX L S A s H locs → lv_has ls 5 [(0, .ref (ad L x0)), (1, .int x1), (2, .int x2), (3, .int x3)] → K22 x0 x1 x2 x3 S = some q → W p l e (rmd (7)) s m av below meth c H locs 0 0 (MQ below (mQ G shX L q.2 (some (.int q.1)) A) av s 0 0 A) (F0 m 22 ls [])) (hK36 : ∀ (x0 : Nat) (x1 : Int32) (x2 : Int32) (x3 : Int32) (x4 : Int32) (S : MS) (H : Heap) (locs : List Loc) (ls : Array Slot), (x0 < shX.1 ∧ shX.2.1 x0 = 10) → mW G shX L S A s H locs → lv_has ls 5 [(0, .ref (ad L x0)), (1, .int x1), (2, .int x2), (3, .int x3), (4, .int x4)] → K36 x0 x1 x2 x3 x4 S = some q → W p l e (rmd (7)) s m av below meth c H locs 0 0 (MQ below (mQ G shX L q.2 (some (.int q.1)) A) av s 0 0 A) (F0 m 36 ls [])) (C : mC p s m av meth c cX10_homes RX10 5 (some .int)) : ∀ (x0 : Nat) (x1 : Int32) (x2 : Int32) (x3 : Int32) (x4 : Int32) (S : MS) (H : Heap) (locs : List Loc) (ls : Array Slot), (x0 < shX.1 ∧ shX.2.1 x0 = 10) → mW G shX L S A s H locs → lv_has ls 5 [(0, .ref (ad L x0)), (1, .int x1), (2, .int x2), (3, .int x3), (4, .int x4)] → fX10_homes_87 K22 K36 x0 x1 x2 x3 x4 S = some q → W p l e (rmd (7)) s m av below meth c H locs 0 0 (MQ below (mQ G shX L q.2 (some (.int q.1)) A) av s 0 0 A) (F0 m 87 ls []) := by
  intro x0 x1 x2 x3 x4 S H locs ls hx0 hW hl hf
  unfold fX10_homes_87 at hf
  refine lv_iinc (v := x4 + (1 : Int32)) (lv' := [(4, .int (x4 + (1 : Int32))), (0, .ref (ad L x0)), (1, .int x1), (2, .int x2), (3, .int x3)]) C.1 C.2.1 dX10_homes_87 hl (k := 4) rfl (congrArg (fun z => x4 + z) ic_1) (by decide) rfl (fun ls hl => ?_)
  refine lv_goto (tgt := 36) C.1 C.2.1 dX10_homes_90 rfl ?_
  exact hK36 x0 x1 x2 x3 (x4 + (1 : Int32)) _ _ _ _ hx0 hW (lv_sub hl [1, 2, 3, 4, 0] rfl) hf

set_option maxRecDepth 100000 in
theorem kX10_homes_36 {p : Program} {l : Launch} {e : Env} {s : State} {m : MethodId} {av : Array Value} {below : List Frame} {meth : Method} {c : Code} {A : Nat → Prop} {G : Gv} {L : List Nat} {q : (Int32 × MS)} {K22 : Nat → Int32 → Int32 → Int32 → MS → Option (Int32 × MS)} (hK22 : ∀ (x0 : Nat) (x1 : Int32) (x2 : Int32) (x3 : Int32) (S : MS) (H : Heap) (locs : List Loc) (ls : Array Slot), (x0 < shX.1 ∧ shX.2.1 x0 = 10) → mW G shX L S A s H locs → lv_has ls 5 [(0, .ref (ad L x0)), (1, .int x1), (2, .int x2), (3, .int x3)] → K22 x0 x1 x2 x3 S = some q → W p l e (rmd (7)) s m av below meth c H locs 0 0 (MQ below (mQ G shX L q.2 (some (.int q.1)) A) av s 0 0 A) (F0 m 22 ls [])) (C : mC p s m av meth c cX10_homes RX10 5 (some .int)) : ∀ (n : Nat) (x0 : Nat) (x1 : Int32) (x2 : Int32) (x3 : Int32) (x4 : Int32) (S : MS) (H : Heap) (locs : List Loc) (ls : Array Slot), (x0 < shX.1 ∧ shX.2.1 x0 = 10) → mW G shX L S A s H locs → lv_has ls 5 [(0, .ref (ad L x0)), (1, .int x1), (2, .int x2), (3, .int x3), (4, .int x4)] → fX10_homes_36 K22 n x0 x1 x2 x3 x4 S = some q → W p l e (rmd (7)) s m av below meth c H locs 0 0 (MQ below (mQ G shX L q.2 (some (.int q.1)) A) av s 0 0 A) (F0 m 36 ls []) := by
  intro n
  induction n with
  | zero =>
    intro x0 x1 x2 x3 x4 S H locs ls hx0 hW hl hf
    rw [fX10_homes_36] at hf
    cases hf
  | succ n ih =>
    intro x0 x1 x2 x3 x4 S H locs ls hx0 hW hl hf
    rw [fX10_homes_36] at hf
    refine lv_iload C.1 C.2.1 dX10_homes_36 (lv_at hl 4 rfl) ?_
    refine lv_aload_n C.1 C.2.1 dX10_homes_38 rfl (lv_at hl 0 rfl) ?_
    refine m_getr C hW hx0 flX10_16 (by decide) dX10_homes_39 (fun hk1 => ?_)
    refine m_geti C hW hk1 flX10_296 dX10_homes_42 ?_
    refine lv_icmp_ge (tgt := 93) C.1 C.2.1 dX10_homes_45 rfl (fun c2 => ?_) (fun c2 => ?_)
    · have hf := (if_pos c2).symm.trans hf
      refine lv_iinc (v := x3 + (1 : Int32)) (lv' := [(3, .int (x3 + (1 : Int32))), (0, .ref (ad L x0)), (1, .int x1), (2, .int x2), (4, .int x4)]) C.1 C.2.1 dX10_homes_93 hl (k := 3) rfl (congrArg (fun z => x3 + z) ic_1) (by decide) rfl (fun ls hl => ?_)
      refine lv_goto (tgt := 22) C.1 C.2.1 dX10_homes_96 rfl ?_
      exact hK22 x0 x1 x2 (x3 + (1 : Int32)) _ _ _ _ hx0 hW (lv_sub hl [1, 2, 3, 0] rfl) hf
    · have hf := (if_neg c2).symm.trans hf
      refine lv_aload_n C.1 C.2.1 dX10_homes_48 rfl (lv_at hl 0 rfl) ?_
      refine m_getr C hW hx0 flX10_16 (by decide) dX10_homes_49 (fun hk3 => ?_)
      refine lv_iload_n C.1 C.2.1 dX10_homes_52 rfl (lv_at hl 3 rfl) ?_
      refine lv_iload C.1 C.2.1 dX10_homes_53 (lv_at hl 4 rfl) ?_
      obtain ⟨q4, h5, hf⟩ := bd hf
      refine m_callV (As := [.int x3, .int x4]) (rest := []) C hW hk3 (cX8_isWall_ok  hk3 h5) mlX10_225 (by decide) rfl hl.1 rfl (Nat.le_of_ble_eq_true rfl) (Nat.le_of_ble_eq_true rfl) (Nat.le_of_ble_eq_true rfl) dX10_homes_55 (fun H locs hW => ?_)
      refine lv_if_ne (tgt := 87) C.1 C.2.1 dX10_homes_58 rfl (fun c6 => ?_) (fun c6 => ?_)
      · have hf := (if_neg c6).symm.trans hf
        exact kX10_homes_87 hK22 ih C x0 x1 x2 x3 x4 _ _ _ _ hx0 hW (lv_sub hl [0, 1, 2, 3, 4] rfl) hf
      · have hf := (if_pos c6).symm.trans hf
        refine lv_aload_n C.1 C.2.1 dX10_homes_61 rfl (lv_at hl 0 rfl) ?_
        refine lv_iload_n C.1 C.2.1 dX10_homes_62 rfl (lv_at hl 3 rfl) ?_
        refine lv_iload C.1 C.2.1 dX10_homes_63 (lv_at hl 4 rfl) ?_
        obtain ⟨q7, h8, hf⟩ := bd hf
        refine m_callV (As := [.int x3, .int x4]) (rest := []) C hW hx0 (cX10_isHome_ok  hx0 h8) mlX10_348 (by decide) rfl hl.1 rfl (Nat.le_of_ble_eq_true rfl) (Nat.le_of_ble_eq_true rfl) (Nat.le_of_ble_eq_true rfl) dX10_homes_65 (fun H locs hW => ?_)
        refine lv_if_eq (tgt := 87) C.1 C.2.1 dX10_homes_68 rfl (fun c9 => ?_) (fun c9 => ?_)
        · have hf := (if_pos c9).symm.trans hf
          exact kX10_homes_87 hK22 ih C x0 x1 x2 x3 x4 _ _ _ _ hx0 hW (lv_sub hl [0, 1, 2, 3, 4] rfl) hf
        · have hf := (if_neg c9).symm.trans hf
          refine lv_iload_n C.1 C.2.1 dX10_homes_71 rfl (lv_at hl 1 rfl) ?_
          refine lv_iconst C.1 C.2.1 dX10_homes_72 ic_1 ?_
          refine lv_icmp_ne (tgt := 84) C.1 C.2.1 dX10_homes_73 rfl (fun c10 => ?_) (fun c10 => ?_)
          · have hf := (if_neg c10).symm.trans hf
            refine lv_iinc (v := x2 + (1 : Int32)) (lv' := [(2, .int (x2 + (1 : Int32))), (0, .ref (ad L x0)), (1, .int x1), (3, .int x3), (4, .int x4)]) C.1 C.2.1 dX10_homes_84 hl (k := 2) rfl (congrArg (fun z => x2 + z) ic_1) (by decide) rfl (fun ls hl => ?_)
            exact kX10_homes_87 hK22 ih C x0 x1 (x2 + (1 : Int32)) x3 x4 _ _ _ _ hx0 hW (lv_sub hl [1, 2, 0, 3, 4] rfl) hf
          · have hf := (if_pos c10).symm.trans hf
            refine lv_bipush C.1 C.2.1 dX10_homes_76 bp_10 ?_
            refine lv_iload_n C.1 C.2.1 dX10_homes_78 rfl (lv_at hl 3 rfl) ?_
            refine lv_imul C.1 C.2.1 dX10_homes_79 ?_
            refine lv_iload C.1 C.2.1 dX10_homes_80 (lv_at hl 4 rfl) ?_
            refine lv_iadd C.1 C.2.1 dX10_homes_82 ?_
            cases hf
            exact m_iret C hW dX10_homes_83

set_option maxRecDepth 100000 in
theorem kX10_homes_22 {p : Program} {l : Launch} {e : Env} {s : State} {m : MethodId} {av : Array Value} {below : List Frame} {meth : Method} {c : Code} {A : Nat → Prop} {G : Gv} {L : List Nat} {q : (Int32 × MS)}  (C : mC p s m av meth c cX10_homes RX10 5 (some .int)) : ∀ (n : Nat) (x0 : Nat) (x1 : Int32) (x2 : Int32) (x3 : Int32) (S : MS) (H : Heap) (locs : List Loc) (ls : Array Slot), (x0 < shX.1 ∧ shX.2.1 x0 = 10) → mW G shX L S A s H locs → lv_has ls 5 [(0, .ref (ad L x0)), (1, .int x1), (2, .int x2), (3, .int x3)] → fX10_homes_22  n x0 x1 x2 x3 S = some q → W p l e (rmd (7)) s m av below meth c H locs 0 0 (MQ below (mQ G shX L q.2 (some (.int q.1)) A) av s 0 0 A) (F0 m 22 ls []) := by
  intro n
  induction n with
  | zero =>
    intro x0 x1 x2 x3 S H locs ls hx0 hW hl hf
    rw [fX10_homes_22] at hf
    cases hf
  | succ n ih =>
    intro x0 x1 x2 x3 S H locs ls hx0 hW hl hf
    rw [fX10_homes_22] at hf
    refine lv_iload_n C.1 C.2.1 dX10_homes_22 rfl (lv_at hl 3 rfl) ?_
    refine lv_aload_n C.1 C.2.1 dX10_homes_23 rfl (lv_at hl 0 rfl) ?_
    refine m_getr C hW hx0 flX10_16 (by decide) dX10_homes_24 (fun hk11 => ?_)
    refine m_geti C hW hk11 flX10_293 dX10_homes_27 ?_
    refine lv_icmp_ge (tgt := 99) C.1 C.2.1 dX10_homes_30 rfl (fun c12 => ?_) (fun c12 => ?_)
    · have hf := (if_pos c12).symm.trans hf
      refine lv_iload_n C.1 C.2.1 dX10_homes_99 rfl (lv_at hl 1 rfl) ?_
      refine lv_if_ne (tgt := 107) C.1 C.2.1 dX10_homes_100 rfl (fun c13 => ?_) (fun c13 => ?_)
      · have hf := (if_neg c13).symm.trans hf
        refine lv_bipush C.1 C.2.1 dX10_homes_107 bp_m2 ?_
        cases hf
        exact m_iret C hW dX10_homes_109
      · have hf := (if_pos c13).symm.trans hf
        refine lv_iload_n C.1 C.2.1 dX10_homes_103 rfl (lv_at hl 2 rfl) ?_
        refine lv_goto (tgt := 109) C.1 C.2.1 dX10_homes_104 rfl ?_
        cases hf
        exact m_iret C hW dX10_homes_109
    · have hf := (if_neg c12).symm.trans hf
      refine lv_iconst C.1 C.2.1 dX10_homes_33 ic_0 ?_
      refine lv_istore (lv' := [(4, .int (0 : Int32)), (0, .ref (ad L x0)), (1, .int x1), (2, .int x2), (3, .int x3)]) C.1 C.2.1 dX10_homes_34 hl (by decide) rfl (fun ls hl => ?_)
      exact kX10_homes_36 ih C 1000 x0 x1 x2 x3 (0 : Int32) _ _ _ _ hx0 hW (lv_sub hl [1, 2, 3, 4, 0] rfl) hf

set_option maxRecDepth 100000 in
theorem cX10_homes_ok {l : Launch} {G : Gv} {L : List Nat} {S : MS} {a0 : Nat} {a1 : Int32} {q : (Int32 × MS)} (ha0 : a0 < shX.1 ∧ shX.2.1 a0 = 10) (hf : fX10_homes a0 a1 S = some q) : Mt l yX10_homes cX10_homes 5 (some .int) (7) G shX L S [.ref (ad L a0), .int a1] (some (.int q.1)) q.2 := by
  refine m_enter (lv := [(0, .ref (ad L a0)), (1, .int a1)]) (plainFor_of_name (by decide)) (Nat.le_of_ble_eq_true rfl) rfl ?_
  intro p e s m below meth c A ls C hW hl
  unfold fX10_homes at hf
  refine lv_iload_n C.1 C.2.1 dX10_homes_0 rfl (lv_at hl 1 rfl) ?_
  refine lv_if_lt (tgt := 9) C.1 C.2.1 dX10_homes_1 rfl (fun c14 => ?_) (fun c14 => ?_)
  · have hf := (if_pos c14).symm.trans hf
    refine lv_iconst C.1 C.2.1 dX10_homes_9 ic_m1 ?_
    cases hf
    exact m_iret C hW dX10_homes_10
  · have hf := (if_neg c14).symm.trans hf
    refine lv_iload_n C.1 C.2.1 dX10_homes_4 rfl (lv_at hl 1 rfl) ?_
    refine lv_iconst C.1 C.2.1 dX10_homes_5 ic_1 ?_
    refine lv_icmp_le (tgt := 11) C.1 C.2.1 dX10_homes_6 rfl (fun c15 => ?_) (fun c15 => ?_)
    · have hf := (if_pos c15).symm.trans hf
      refine lv_aload_n C.1 C.2.1 dX10_homes_11 rfl (lv_at hl 0 rfl) ?_
      refine m_getr C hW ha0 flX10_65 (by decide) dX10_homes_12 (fun hk16 => ?_)
      obtain ⟨q17, h18, hf⟩ := bd hf
      refine m_callV (As := []) (rest := []) C hW hk16 (cX6_settle_ok  hk16 h18) mlX10_345 (by decide) rfl hl.1 rfl (Nat.le_of_ble_eq_true rfl) (Nat.le_of_ble_eq_true rfl) (Nat.le_of_ble_eq_true rfl) dX10_homes_15 (fun H locs hW => ?_)
      refine lv_iconst C.1 C.2.1 dX10_homes_18 ic_0 ?_
      refine lv_istore_n (lv' := [(2, .int (0 : Int32)), (0, .ref (ad L a0)), (1, .int a1)]) C.1 C.2.1 dX10_homes_19 rfl hl (by decide) rfl (fun ls hl => ?_)
      refine lv_iconst C.1 C.2.1 dX10_homes_20 ic_0 ?_
      refine lv_istore_n (lv' := [(3, .int (0 : Int32)), (2, .int (0 : Int32)), (0, .ref (ad L a0)), (1, .int a1)]) C.1 C.2.1 dX10_homes_21 rfl hl (by decide) rfl (fun ls hl => ?_)
      exact kX10_homes_22  C 1000 a0 a1 (0 : Int32) (0 : Int32) _ _ _ _ ha0 hW (lv_sub hl [2, 3, 1, 0] rfl) hf
    · have hf := (if_neg c15).symm.trans hf
      refine lv_iconst C.1 C.2.1 dX10_homes_9 ic_m1 ?_
      cases hf
      exact m_iret C hW dX10_homes_10

def fX10_chance_102 (K36 : Nat → Int32 → Int32 → Int32 → Int32 → Int32 → MS → Option (Int32 × MS)) (x0 : Nat) (x2 : Int32) (x3 : Int32) (x4 : Int32) (x5 : Int32) (x6 : Int32) (S : MS) : Option (Int32 × MS) := K36 x0 x2 x3 x4 x5 (x6 + (1 : Int32)) S
def fX10_chance_36  : Nat → Nat → Int32 → Int32 → Int32 → Int32 → Int32 → MS → Option (Int32 × MS)
  | 0, _, _, _, _, _, _, _ => none
  | n + 1, x0, x2, x3, x4, x5, x6, S => (if (10 : Int32) ≤ x6 then some (x4, S) else (fX9_become  (gR S x0 11) (gR S x0 9) S).bind fun q4 => (fX0_passAll  (gR (pI q4 (gR q4 x0 11) 11 x5) x0 4) (gR (pI q4 (gR q4 x0 11) 11 x5) x0 11) x2 (1 : Int32) (pI q4 (gR q4 x0 11) 11 x5)).bind fun q9 => (fJ6_bitCount_0f7a4  (gI q9 (gR q9 x0 11) 8) q9).bind fun q13 => (if q13 < x3 then fX10_chance_102 (fX10_chance_36  n) x0 x2 x3 x4 (gI q9 (gR q9 x0 11) 11) x6 q9 else fX10_chance_102 (fX10_chance_36  n) x0 x2 x3 (x4 + (1 : Int32)) (gI q9 (gR q9 x0 11) 11) x6 q9))
def fX10_chance (a0 : Nat) (a1 : Int32) (a2 : Int32) (a3 : Int32) (S : MS) : Option (Int32 × MS) := (if a1 < (0 : Int32) then some ((-1 : Int32), S) else (if a2 < (1 : Int32) then some ((-1 : Int32), S) else (if (99 : Int32) < a2 then some ((-1 : Int32), S) else (if a3 < (0 : Int32) then some ((-1 : Int32), S) else (if a3 ≤ (8 : Int32) then fX10_chance_36  1000 a0 a2 a3 (0 : Int32) a1 (0 : Int32) S else some ((-1 : Int32), S))))))
set_option maxRecDepth 100000 in
theorem kX10_chance_102 {p : Program} {l : Launch} {e : Env} {s : State} {m : MethodId} {av : Array Value} {below : List Frame} {meth : Method} {c : Code} {A : Nat → Prop} {G : Gv} {L : List Nat} {q : (Int32 × MS)} {K36 : Nat → Int32 → Int32 → Int32 → Int32 → Int32 → MS → Option (Int32 × MS)} (hK36 : ∀ (x0 : Nat) (x2 : Int32) (x3 : Int32) (x4 : Int32) (x5 : Int32) (x6 : Int32) (S : MS) (H : Heap) (locs : List Loc) (ls : Array Slot), (x0 < shX.1 ∧ shX.2.1 x0 = 10) → mW G shX L S A s H locs → lv_has ls 7 [(0, .ref (ad L x0)), (2, .int x2), (3, .int x3), (4, .int x4), (5, .int x5), (6, .int x6)] → K36 x0 x2 x3 x4 x5 x6 S = some q → W p l e (rmd (7)) s m av below meth c H locs 0 0 (MQ below (mQ G shX L q.2 (some (.int q.1)) A) av s 0 0 A) (F0 m 36 ls [])) (C : mC p s m av meth c cX10_chance RX10 7 (some .int)) : ∀ (x0 : Nat) (x2 : Int32) (x3 : Int32) (x4 : Int32) (x5 : Int32) (x6 : Int32) (S : MS) (H : Heap) (locs : List Loc) (ls : Array Slot), (x0 < shX.1 ∧ shX.2.1 x0 = 10) → mW G shX L S A s H locs → lv_has ls 7 [(0, .ref (ad L x0)), (2, .int x2), (3, .int x3), (4, .int x4), (5, .int x5), (6, .int x6)] → fX10_chance_102 K36 x0 x2 x3 x4 x5 x6 S = some q → W p l e (rmd (7)) s m av below meth c H locs 0 0 (MQ below (mQ G shX L q.2 (some (.int q.1)) A) av s 0 0 A) (F0 m 102 ls []) := by
  intro x0 x2 x3 x4 x5 x6 S H locs ls hx0 hW hl hf
  unfold fX10_chance_102 at hf
  refine lv_iinc (v := x6 + (1 : Int32)) (lv' := [(6, .int (x6 + (1 : Int32))), (0, .ref (ad L x0)), (2, .int x2), (3, .int x3), (4, .int x4), (5, .int x5)]) C.1 C.2.1 dX10_chance_102 hl (k := 5) rfl (congrArg (fun z => x6 + z) ic_1) (by decide) rfl (fun ls hl => ?_)
  refine lv_goto (tgt := 36) C.1 C.2.1 dX10_chance_105 rfl ?_
  exact hK36 x0 x2 x3 x4 x5 (x6 + (1 : Int32)) _ _ _ _ hx0 hW (lv_sub hl [1, 2, 3, 4, 5, 0] rfl) hf

set_option maxRecDepth 100000 in
theorem kX10_chance_36 {p : Program} {l : Launch} {e : Env} {s : State} {m : MethodId} {av : Array Value} {below : List Frame} {meth : Method} {c : Code} {A : Nat → Prop} {G : Gv} {L : List Nat} {q : (Int32 × MS)}  (C : mC p s m av meth c cX10_chance RX10 7 (some .int)) : ∀ (n : Nat) (x0 : Nat) (x2 : Int32) (x3 : Int32) (x4 : Int32) (x5 : Int32) (x6 : Int32) (S : MS) (H : Heap) (locs : List Loc) (ls : Array Slot), (x0 < shX.1 ∧ shX.2.1 x0 = 10) → mW G shX L S A s H locs → lv_has ls 7 [(0, .ref (ad L x0)), (2, .int x2), (3, .int x3), (4, .int x4), (5, .int x5), (6, .int x6)] → fX10_chance_36  n x0 x2 x3 x4 x5 x6 S = some q → W p l e (rmd (7)) s m av below meth c H locs 0 0 (MQ below (mQ G shX L q.2 (some (.int q.1)) A) av s 0 0 A) (F0 m 36 ls []) := by
  intro n
  induction n with
  | zero =>
    intro x0 x2 x3 x4 x5 x6 S H locs ls hx0 hW hl hf
    rw [fX10_chance_36] at hf
    cases hf
  | succ n ih =>
    intro x0 x2 x3 x4 x5 x6 S H locs ls hx0 hW hl hf
    rw [fX10_chance_36] at hf
    refine lv_iload C.1 C.2.1 dX10_chance_36 (lv_at hl 5 rfl) ?_
    refine lv_bipush C.1 C.2.1 dX10_chance_38 bp_10 ?_
    refine lv_icmp_ge (tgt := 108) C.1 C.2.1 dX10_chance_40 rfl (fun c1 => ?_) (fun c1 => ?_)
    · have hf := (if_pos c1).symm.trans hf
      refine lv_iload C.1 C.2.1 dX10_chance_108 (lv_at hl 3 rfl) ?_
      cases hf
      exact m_iret C hW dX10_chance_110
    · have hf := (if_neg c1).symm.trans hf
      refine lv_aload_n C.1 C.2.1 dX10_chance_43 rfl (lv_at hl 0 rfl) ?_
      refine m_getr C hW hx0 flX10_79 (by decide) dX10_chance_44 (fun hk2 => ?_)
      refine lv_aload_n C.1 C.2.1 dX10_chance_47 rfl (lv_at hl 0 rfl) ?_
      refine m_getr C hW hx0 flX10_72 (by decide) dX10_chance_48 (fun hk3 => ?_)
      obtain ⟨q4, h5, hf⟩ := bd hf
      refine m_callV (As := [.ref (ad L (gR S x0 9))]) (rest := []) C hW hk2 (cX9_become_ok  hk2 hk3 h5) mlX10_264 (by decide) rfl hl.1 rfl (Nat.le_of_ble_eq_true rfl) (Nat.le_of_ble_eq_true rfl) (Nat.le_of_ble_eq_true rfl) dX10_chance_51 (fun H locs hW => ?_)
      refine lv_aload_n C.1 C.2.1 dX10_chance_54 rfl (lv_at hl 0 rfl) ?_
      refine m_getr C hW hx0 flX10_79 (by decide) dX10_chance_55 (fun hk6 => ?_)
      refine lv_iload C.1 C.2.1 dX10_chance_58 (lv_at hl 4 rfl) ?_
      refine m_puti C hW hk6 fpX10_358 dX10_chance_60 (fun H locs hW => ?_)
      refine lv_aload_n C.1 C.2.1 dX10_chance_63 rfl (lv_at hl 0 rfl) ?_
      refine m_getr C hW hx0 flX10_35 (by decide) dX10_chance_64 (fun hk7 => ?_)
      refine lv_aload_n C.1 C.2.1 dX10_chance_67 rfl (lv_at hl 0 rfl) ?_
      refine m_getr C hW hx0 flX10_79 (by decide) dX10_chance_68 (fun hk8 => ?_)
      refine lv_iload_n C.1 C.2.1 dX10_chance_71 rfl (lv_at hl 1 rfl) ?_
      refine lv_iconst C.1 C.2.1 dX10_chance_72 ic_1 ?_
      obtain ⟨q9, h10, hf⟩ := bd hf
      refine m_callV (As := [.ref (ad L (gR (pI q4 (gR q4 x0 11) 11 x5) x0 11)), .int x2, .int (1 : Int32)]) (rest := []) C hW hk7 (cX0_passAll_ok  hk7 hk8 h10) mlX10_261 (by decide) rfl hl.1 rfl (Nat.le_of_ble_eq_true rfl) (Nat.le_of_ble_eq_true rfl) (Nat.le_of_ble_eq_true rfl) dX10_chance_73 (fun H locs hW => ?_)
      refine lv_aload_n C.1 C.2.1 dX10_chance_76 rfl (lv_at hl 0 rfl) ?_
      refine m_getr C hW hx0 flX10_79 (by decide) dX10_chance_77 (fun hk11 => ?_)
      refine m_geti C hW hk11 flX10_358 dX10_chance_80 ?_
      refine lv_istore (lv' := [(5, .int (gI q9 (gR q9 x0 11) 11)), (0, .ref (ad L x0)), (2, .int x2), (3, .int x3), (4, .int x4), (6, .int x6)]) C.1 C.2.1 dX10_chance_83 hl (by decide) rfl (fun ls hl => ?_)
      refine lv_aload_n C.1 C.2.1 dX10_chance_85 rfl (lv_at hl 1 rfl) ?_
      refine m_getr C hW hx0 flX10_79 (by decide) dX10_chance_86 (fun hk12 => ?_)
      refine m_geti C hW hk12 flX10_195 dX10_chance_89 ?_
      obtain ⟨q13, h14, hf⟩ := bd hf
      refine m_callS (As := [.int (gI q9 (gR q9 x0 11) 8)]) (rest := []) C hW (cJ6_bitCount_0f7a4_ok   h14) mlX10_267 rfl hl.1 rfl (Nat.le_of_ble_eq_true rfl) (Nat.le_of_ble_eq_true rfl) (Nat.le_of_ble_eq_true rfl) dX10_chance_92 (fun H locs hW => ?_)
      refine lv_iload_n C.1 C.2.1 dX10_chance_95 rfl (lv_at hl 3 rfl) ?_
      refine lv_icmp_lt (tgt := 102) C.1 C.2.1 dX10_chance_96 rfl (fun c15 => ?_) (fun c15 => ?_)
      · have hf := (if_pos c15).symm.trans hf
        exact kX10_chance_102 ih C x0 x2 x3 x4 (gI q9 (gR q9 x0 11) 11) x6 _ _ _ _ hx0 hW (lv_sub hl [1, 2, 3, 4, 0, 5] rfl) hf
      · have hf := (if_neg c15).symm.trans hf
        refine lv_iinc (v := x4 + (1 : Int32)) (lv' := [(4, .int (x4 + (1 : Int32))), (5, .int (gI q9 (gR q9 x0 11) 11)), (0, .ref (ad L x0)), (2, .int x2), (3, .int x3), (6, .int x6)]) C.1 C.2.1 dX10_chance_99 hl (k := 4) rfl (congrArg (fun z => x4 + z) ic_1) (by decide) rfl (fun ls hl => ?_)
        exact kX10_chance_102 ih C x0 x2 x3 (x4 + (1 : Int32)) (gI q9 (gR q9 x0 11) 11) x6 _ _ _ _ hx0 hW (lv_sub hl [2, 3, 4, 0, 1, 5] rfl) hf

set_option maxRecDepth 100000 in
theorem cX10_chance_ok {l : Launch} {G : Gv} {L : List Nat} {S : MS} {a0 : Nat} {a1 : Int32} {a2 : Int32} {a3 : Int32} {q : (Int32 × MS)} (ha0 : a0 < shX.1 ∧ shX.2.1 a0 = 10) (hf : fX10_chance a0 a1 a2 a3 S = some q) : Mt l yX10_chance cX10_chance 7 (some .int) (7) G shX L S [.ref (ad L a0), .int a1, .int a2, .int a3] (some (.int q.1)) q.2 := by
  refine m_enter (lv := [(0, .ref (ad L a0)), (1, .int a1), (2, .int a2), (3, .int a3)]) (plainFor_of_name (by decide)) (Nat.le_of_ble_eq_true rfl) rfl ?_
  intro p e s m below meth c A ls C hW hl
  unfold fX10_chance at hf
  refine lv_iload_n C.1 C.2.1 dX10_chance_0 rfl (lv_at hl 1 rfl) ?_
  refine lv_if_lt (tgt := 25) C.1 C.2.1 dX10_chance_1 rfl (fun c16 => ?_) (fun c16 => ?_)
  · have hf := (if_pos c16).symm.trans hf
    refine lv_iconst C.1 C.2.1 dX10_chance_25 ic_m1 ?_
    cases hf
    exact m_iret C hW dX10_chance_26
  · have hf := (if_neg c16).symm.trans hf
    refine lv_iload_n C.1 C.2.1 dX10_chance_4 rfl (lv_at hl 2 rfl) ?_
    refine lv_iconst C.1 C.2.1 dX10_chance_5 ic_1 ?_
    refine lv_icmp_lt (tgt := 25) C.1 C.2.1 dX10_chance_6 rfl (fun c17 => ?_) (fun c17 => ?_)
    · have hf := (if_pos c17).symm.trans hf
      refine lv_iconst C.1 C.2.1 dX10_chance_25 ic_m1 ?_
      cases hf
      exact m_iret C hW dX10_chance_26
    · have hf := (if_neg c17).symm.trans hf
      refine lv_iload_n C.1 C.2.1 dX10_chance_9 rfl (lv_at hl 2 rfl) ?_
      refine lv_bipush C.1 C.2.1 dX10_chance_10 bp_99 ?_
      refine lv_icmp_gt (tgt := 25) C.1 C.2.1 dX10_chance_12 rfl (fun c18 => ?_) (fun c18 => ?_)
      · have hf := (if_pos c18).symm.trans hf
        refine lv_iconst C.1 C.2.1 dX10_chance_25 ic_m1 ?_
        cases hf
        exact m_iret C hW dX10_chance_26
      · have hf := (if_neg c18).symm.trans hf
        refine lv_iload_n C.1 C.2.1 dX10_chance_15 rfl (lv_at hl 3 rfl) ?_
        refine lv_if_lt (tgt := 25) C.1 C.2.1 dX10_chance_16 rfl (fun c19 => ?_) (fun c19 => ?_)
        · have hf := (if_pos c19).symm.trans hf
          refine lv_iconst C.1 C.2.1 dX10_chance_25 ic_m1 ?_
          cases hf
          exact m_iret C hW dX10_chance_26
        · have hf := (if_neg c19).symm.trans hf
          refine lv_iload_n C.1 C.2.1 dX10_chance_19 rfl (lv_at hl 3 rfl) ?_
          refine lv_bipush C.1 C.2.1 dX10_chance_20 bp_8 ?_
          refine lv_icmp_le (tgt := 27) C.1 C.2.1 dX10_chance_22 rfl (fun c20 => ?_) (fun c20 => ?_)
          · have hf := (if_pos c20).symm.trans hf
            refine lv_iconst C.1 C.2.1 dX10_chance_27 ic_0 ?_
            refine lv_istore (lv' := [(4, .int (0 : Int32)), (0, .ref (ad L a0)), (1, .int a1), (2, .int a2), (3, .int a3)]) C.1 C.2.1 dX10_chance_28 hl (by decide) rfl (fun ls hl => ?_)
            refine lv_iload_n C.1 C.2.1 dX10_chance_30 rfl (lv_at hl 2 rfl) ?_
            refine lv_istore (lv' := [(5, .int a1), (4, .int (0 : Int32)), (0, .ref (ad L a0)), (1, .int a1), (2, .int a2), (3, .int a3)]) C.1 C.2.1 dX10_chance_31 hl (by decide) rfl (fun ls hl => ?_)
            refine lv_iconst C.1 C.2.1 dX10_chance_33 ic_0 ?_
            refine lv_istore (lv' := [(6, .int (0 : Int32)), (5, .int a1), (4, .int (0 : Int32)), (0, .ref (ad L a0)), (1, .int a1), (2, .int a2), (3, .int a3)]) C.1 C.2.1 dX10_chance_34 hl (by decide) rfl (fun ls hl => ?_)
            exact kX10_chance_36  C 1000 a0 a2 a3 (0 : Int32) a1 (0 : Int32) _ _ _ _ ha0 hW (lv_sub hl [3, 5, 6, 2, 1, 0] rfl) hf
          · have hf := (if_neg c20).symm.trans hf
            refine lv_iconst C.1 C.2.1 dX10_chance_25 ic_m1 ?_
            cases hf
            exact m_iret C hW dX10_chance_26

def fX10_tried_146  (x0 : Nat) (x3 : Int32) (x4 : Int32) (S : MS) : Option (Int32 × MS) := (fX0_passAll  (gR S x0 4) (gR S x0 11) x3 x4 S).bind fun q3 => (fX8_worthOf  (gR q3 x0 1) (gI q3 (gR q3 x0 11) 8) q3).bind fun q7 => (fX8_worthOf  (gR q3 x0 1) (gI q3 (gR q3 x0 9) 8) q3).bind fun q11 => some (q7 - q11, q3)
def fX10_tried_44  (x0 : Nat) (x1 : Int32) (x2 : Int32) (x3 : Int32) (S : MS) : Option (Int32 × MS) := (fX9_become  (gR S x0 11) (gR S x0 9) S).bind fun q15 => (if x1 = (1 : Int32) then fX10_tried_146  x0 x3 (2 : Int32) q15 else if x1 = (2 : Int32) then fX10_tried_146  x0 x3 (0 : Int32) (pI q15 (gR q15 x0 11) 7 ((gI q15 (gR q15 x0 11) 7) &&& (((1 : Int32) <<< (x2 &&& 31)) ^^^ (-1 : Int32)))) else if x1 = (3 : Int32) then fX10_tried_146  x0 x3 (4 : Int32) q15 else if x1 = (4 : Int32) then fX10_tried_146  x0 x3 (8 : Int32) (pI q15 (gR q15 x0 11) 6 (0 : Int32)) else if x1 = (5 : Int32) then fX10_tried_146  x0 x3 (16 : Int32) q15 else fX10_tried_146  x0 x3 (0 : Int32) q15)
def fX10_tried (a0 : Nat) (a1 : Int32) (a2 : Int32) (a3 : Int32) (S : MS) : Option (Int32 × MS) := (if a1 < (0 : Int32) then some ((-1 : Int32), S) else (if (5 : Int32) < a1 then some ((-1 : Int32), S) else (fX10_areHours  a3 S).bind fun q27 => (if q27 = (0 : Int32) then some ((-1 : Int32), S) else (if a1 = (2 : Int32) then (fX7_has  (gR S (gR S a0 1) 3) a2 S).bind fun q34 => (if q34 = (0 : Int32) then some ((-1 : Int32), S) else fX10_tried_44  a0 a1 a2 a3 S) else (if a2 = (0 : Int32) then fX10_tried_44  a0 a1 a2 a3 S else some ((-1 : Int32), S))))))
set_option maxRecDepth 100000 in
theorem kX10_tried_146 {p : Program} {l : Launch} {e : Env} {s : State} {m : MethodId} {av : Array Value} {below : List Frame} {meth : Method} {c : Code} {A : Nat → Prop} {G : Gv} {L : List Nat} {q : (Int32 × MS)}  (C : mC p s m av meth c cX10_tried RX10 5 (some .int)) : ∀ (x0 : Nat) (x3 : Int32) (x4 : Int32) (S : MS) (H : Heap) (locs : List Loc) (ls : Array Slot), (x0 < shX.1 ∧ shX.2.1 x0 = 10) → mW G shX L S A s H locs → lv_has ls 5 [(0, .ref (ad L x0)), (3, .int x3), (4, .int x4)] → fX10_tried_146  x0 x3 x4 S = some q → W p l e (rmd (7)) s m av below meth c H locs 0 0 (MQ below (mQ G shX L q.2 (some (.int q.1)) A) av s 0 0 A) (F0 m 146 ls []) := by
  intro x0 x3 x4 S H locs ls hx0 hW hl hf
  unfold fX10_tried_146 at hf
  refine lv_aload_n C.1 C.2.1 dX10_tried_146 rfl (lv_at hl 0 rfl) ?_
  refine m_getr C hW hx0 flX10_35 (by decide) dX10_tried_147 (fun hk1 => ?_)
  refine lv_aload_n C.1 C.2.1 dX10_tried_150 rfl (lv_at hl 0 rfl) ?_
  refine m_getr C hW hx0 flX10_79 (by decide) dX10_tried_151 (fun hk2 => ?_)
  refine lv_iload_n C.1 C.2.1 dX10_tried_154 rfl (lv_at hl 1 rfl) ?_
  refine lv_iload C.1 C.2.1 dX10_tried_155 (lv_at hl 2 rfl) ?_
  obtain ⟨q3, h4, hf⟩ := bd hf
  refine m_callV (As := [.ref (ad L (gR S x0 11)), .int x3, .int x4]) (rest := []) C hW hk1 (cX0_passAll_ok  hk1 hk2 h4) mlX10_261 (by decide) rfl hl.1 rfl (Nat.le_of_ble_eq_true rfl) (Nat.le_of_ble_eq_true rfl) (Nat.le_of_ble_eq_true rfl) dX10_tried_157 (fun H locs hW => ?_)
  refine lv_aload_n C.1 C.2.1 dX10_tried_160 rfl (lv_at hl 0 rfl) ?_
  refine m_getr C hW hx0 flX10_16 (by decide) dX10_tried_161 (fun hk5 => ?_)
  refine lv_aload_n C.1 C.2.1 dX10_tried_164 rfl (lv_at hl 0 rfl) ?_
  refine m_getr C hW hx0 flX10_79 (by decide) dX10_tried_165 (fun hk6 => ?_)
  refine m_geti C hW hk6 flX10_195 dX10_tried_168 ?_
  obtain ⟨q7, h8, hf⟩ := bd hf
  refine m_callV (As := [.int (gI q3 (gR q3 x0 11) 8)]) (rest := []) C hW hk5 (cX8_worthOf_ok  hk5 h8) mlX10_272 (by decide) rfl hl.1 rfl (Nat.le_of_ble_eq_true rfl) (Nat.le_of_ble_eq_true rfl) (Nat.le_of_ble_eq_true rfl) dX10_tried_171 (fun H locs hW => ?_)
  refine lv_aload_n C.1 C.2.1 dX10_tried_174 rfl (lv_at hl 0 rfl) ?_
  refine m_getr C hW hx0 flX10_16 (by decide) dX10_tried_175 (fun hk9 => ?_)
  refine lv_aload_n C.1 C.2.1 dX10_tried_178 rfl (lv_at hl 0 rfl) ?_
  refine m_getr C hW hx0 flX10_72 (by decide) dX10_tried_179 (fun hk10 => ?_)
  refine m_geti C hW hk10 flX10_195 dX10_tried_182 ?_
  obtain ⟨q11, h12, hf⟩ := bd hf
  refine m_callV (As := [.int (gI q3 (gR q3 x0 9) 8)]) (rest := [.int q7]) C hW hk9 (cX8_worthOf_ok  hk9 h12) mlX10_272 (by decide) rfl hl.1 rfl (Nat.le_of_ble_eq_true rfl) (Nat.le_of_ble_eq_true rfl) (Nat.le_of_ble_eq_true rfl) dX10_tried_185 (fun H locs hW => ?_)
  refine lv_isub C.1 C.2.1 dX10_tried_188 ?_
  cases hf
  exact m_iret C hW dX10_tried_189

set_option maxRecDepth 100000 in
theorem kX10_tried_44 {p : Program} {l : Launch} {e : Env} {s : State} {m : MethodId} {av : Array Value} {below : List Frame} {meth : Method} {c : Code} {A : Nat → Prop} {G : Gv} {L : List Nat} {q : (Int32 × MS)}  (C : mC p s m av meth c cX10_tried RX10 5 (some .int)) : ∀ (x0 : Nat) (x1 : Int32) (x2 : Int32) (x3 : Int32) (S : MS) (H : Heap) (locs : List Loc) (ls : Array Slot), (x0 < shX.1 ∧ shX.2.1 x0 = 10) → mW G shX L S A s H locs → lv_has ls 5 [(0, .ref (ad L x0)), (1, .int x1), (2, .int x2), (3, .int x3)] → fX10_tried_44  x0 x1 x2 x3 S = some q → W p l e (rmd (7)) s m av below meth c H locs 0 0 (MQ below (mQ G shX L q.2 (some (.int q.1)) A) av s 0 0 A) (F0 m 44 ls []) := by
  intro x0 x1 x2 x3 S H locs ls hx0 hW hl hf
  unfold fX10_tried_44 at hf
  refine lv_aload_n C.1 C.2.1 dX10_tried_44 rfl (lv_at hl 0 rfl) ?_
  refine m_getr C hW hx0 flX10_79 (by decide) dX10_tried_45 (fun hk13 => ?_)
  refine lv_aload_n C.1 C.2.1 dX10_tried_48 rfl (lv_at hl 0 rfl) ?_
  refine m_getr C hW hx0 flX10_72 (by decide) dX10_tried_49 (fun hk14 => ?_)
  obtain ⟨q15, h16, hf⟩ := bd hf
  refine m_callV (As := [.ref (ad L (gR S x0 9))]) (rest := []) C hW hk13 (cX9_become_ok  hk13 hk14 h16) mlX10_264 (by decide) rfl hl.1 rfl (Nat.le_of_ble_eq_true rfl) (Nat.le_of_ble_eq_true rfl) (Nat.le_of_ble_eq_true rfl) dX10_tried_52 (fun H locs hW => ?_)
  refine lv_iconst C.1 C.2.1 dX10_tried_55 ic_0 ?_
  refine lv_istore (lv' := [(4, .int (0 : Int32)), (0, .ref (ad L x0)), (1, .int x1), (2, .int x2), (3, .int x3)]) C.1 C.2.1 dX10_tried_56 hl (by decide) rfl (fun ls hl => ?_)
  refine lv_iload_n C.1 C.2.1 dX10_tried_58 rfl (lv_at hl 2 rfl) ?_
  by_cases c17 : x1 = (1 : Int32)
  · have hf := (if_pos c17).symm.trans hf
    refine lv_tableIn (tgt := 92) C.1 C.2.1 dX10_tried_59 (by rw [c17]; decide) (by rw [c17]; decide) (by rw [c17]; rfl) rfl ?_
    refine lv_iconst C.1 C.2.1 dX10_tried_92 ic_2 ?_
    refine lv_istore (lv' := [(4, .int (2 : Int32)), (0, .ref (ad L x0)), (1, .int x1), (2, .int x2), (3, .int x3)]) C.1 C.2.1 dX10_tried_93 hl (by decide) rfl (fun ls hl => ?_)
    refine lv_goto (tgt := 146) C.1 C.2.1 dX10_tried_95 rfl ?_
    exact kX10_tried_146  C x0 x3 (2 : Int32) _ _ _ _ hx0 hW (lv_sub hl [1, 4, 0] rfl) hf
  have hf := (if_neg c17).symm.trans hf
  by_cases c18 : x1 = (2 : Int32)
  · have hf := (if_pos c18).symm.trans hf
    refine lv_tableIn (tgt := 98) C.1 C.2.1 dX10_tried_59 (by rw [c18]; decide) (by rw [c18]; decide) (by rw [c18]; rfl) rfl ?_
    refine lv_aload_n C.1 C.2.1 dX10_tried_98 rfl (lv_at hl 1 rfl) ?_
    refine m_getr C hW hx0 flX10_79 (by decide) dX10_tried_99 (fun hk19 => ?_)
    refine lv_dup C.1 C.2.1 dX10_tried_102 rfl ?_
    refine m_geti C hW hk19 flX10_218 dX10_tried_103 ?_
    refine lv_iconst C.1 C.2.1 dX10_tried_106 ic_1 ?_
    refine lv_iload_n C.1 C.2.1 dX10_tried_107 rfl (lv_at hl 3 rfl) ?_
    refine lv_ishl C.1 C.2.1 dX10_tried_108 ?_
    refine lv_iconst C.1 C.2.1 dX10_tried_109 ic_m1 ?_
    refine lv_ixor C.1 C.2.1 dX10_tried_110 ?_
    refine lv_iand C.1 C.2.1 dX10_tried_111 ?_
    refine m_puti C hW hk19 fpX10_218 dX10_tried_112 (fun H locs hW => ?_)
    refine lv_goto (tgt := 146) C.1 C.2.1 dX10_tried_115 rfl ?_
    exact kX10_tried_146  C x0 x3 (0 : Int32) _ _ _ _ hx0 hW (lv_sub hl [1, 4, 0] rfl) hf
  have hf := (if_neg c18).symm.trans hf
  by_cases c20 : x1 = (3 : Int32)
  · have hf := (if_pos c20).symm.trans hf
    refine lv_tableIn (tgt := 118) C.1 C.2.1 dX10_tried_59 (by rw [c20]; decide) (by rw [c20]; decide) (by rw [c20]; rfl) rfl ?_
    refine lv_iconst C.1 C.2.1 dX10_tried_118 ic_4 ?_
    refine lv_istore (lv' := [(4, .int (4 : Int32)), (0, .ref (ad L x0)), (1, .int x1), (2, .int x2), (3, .int x3)]) C.1 C.2.1 dX10_tried_119 hl (by decide) rfl (fun ls hl => ?_)
    refine lv_goto (tgt := 146) C.1 C.2.1 dX10_tried_121 rfl ?_
    exact kX10_tried_146  C x0 x3 (4 : Int32) _ _ _ _ hx0 hW (lv_sub hl [1, 4, 0] rfl) hf
  have hf := (if_neg c20).symm.trans hf
  by_cases c21 : x1 = (4 : Int32)
  · have hf := (if_pos c21).symm.trans hf
    refine lv_tableIn (tgt := 124) C.1 C.2.1 dX10_tried_59 (by rw [c21]; decide) (by rw [c21]; decide) (by rw [c21]; rfl) rfl ?_
    refine lv_bipush C.1 C.2.1 dX10_tried_124 bp_8 ?_
    refine lv_istore (lv' := [(4, .int (8 : Int32)), (0, .ref (ad L x0)), (1, .int x1), (2, .int x2), (3, .int x3)]) C.1 C.2.1 dX10_tried_126 hl (by decide) rfl (fun ls hl => ?_)
    refine lv_aload_n C.1 C.2.1 dX10_tried_128 rfl (lv_at hl 1 rfl) ?_
    refine m_getr C hW hx0 flX10_79 (by decide) dX10_tried_129 (fun hk22 => ?_)
    refine lv_iconst C.1 C.2.1 dX10_tried_132 ic_0 ?_
    refine m_puti C hW hk22 fpX10_176 dX10_tried_133 (fun H locs hW => ?_)
    refine lv_goto (tgt := 146) C.1 C.2.1 dX10_tried_136 rfl ?_
    exact kX10_tried_146  C x0 x3 (8 : Int32) _ _ _ _ hx0 hW (lv_sub hl [1, 4, 0] rfl) hf
  have hf := (if_neg c21).symm.trans hf
  by_cases c23 : x1 = (5 : Int32)
  · have hf := (if_pos c23).symm.trans hf
    refine lv_tableIn (tgt := 139) C.1 C.2.1 dX10_tried_59 (by rw [c23]; decide) (by rw [c23]; decide) (by rw [c23]; rfl) rfl ?_
    refine lv_bipush C.1 C.2.1 dX10_tried_139 bp_16 ?_
    refine lv_istore (lv' := [(4, .int (16 : Int32)), (0, .ref (ad L x0)), (1, .int x1), (2, .int x2), (3, .int x3)]) C.1 C.2.1 dX10_tried_141 hl (by decide) rfl (fun ls hl => ?_)
    refine lv_goto (tgt := 146) C.1 C.2.1 dX10_tried_143 rfl ?_
    exact kX10_tried_146  C x0 x3 (16 : Int32) _ _ _ _ hx0 hW (lv_sub hl [1, 4, 0] rfl) hf
  have hf := (if_neg c23).symm.trans hf
  by_cases ho24 : x1.toInt < 1 ∨ 5 < x1.toInt
  · refine lv_tableOut (tgt := 146) C.1 C.2.1 dX10_tried_59 ho24 rfl ?_
    exact kX10_tried_146  C x0 x3 (0 : Int32) _ _ _ _ hx0 hW (lv_sub hl [1, 4, 0] rfl) hf
  · exfalso
    have := tn_e c17 (1) (by decide)
    have := tn_e c18 (2) (by decide)
    have := tn_e c20 (3) (by decide)
    have := tn_e c21 (4) (by decide)
    have := tn_e c23 (5) (by decide)
    omega

set_option maxRecDepth 100000 in
theorem cX10_tried_ok {l : Launch} {G : Gv} {L : List Nat} {S : MS} {a0 : Nat} {a1 : Int32} {a2 : Int32} {a3 : Int32} {q : (Int32 × MS)} (ha0 : a0 < shX.1 ∧ shX.2.1 a0 = 10) (hf : fX10_tried a0 a1 a2 a3 S = some q) : Mt l yX10_tried cX10_tried 5 (some .int) (7) G shX L S [.ref (ad L a0), .int a1, .int a2, .int a3] (some (.int q.1)) q.2 := by
  refine m_enter (lv := [(0, .ref (ad L a0)), (1, .int a1), (2, .int a2), (3, .int a3)]) (plainFor_of_name (by decide)) (Nat.le_of_ble_eq_true rfl) rfl ?_
  intro p e s m below meth c A ls C hW hl
  unfold fX10_tried at hf
  refine lv_iload_n C.1 C.2.1 dX10_tried_0 rfl (lv_at hl 1 rfl) ?_
  refine lv_if_lt (tgt := 42) C.1 C.2.1 dX10_tried_1 rfl (fun c25 => ?_) (fun c25 => ?_)
  · have hf := (if_pos c25).symm.trans hf
    refine lv_iconst C.1 C.2.1 dX10_tried_42 ic_m1 ?_
    cases hf
    exact m_iret C hW dX10_tried_43
  · have hf := (if_neg c25).symm.trans hf
    refine lv_iload_n C.1 C.2.1 dX10_tried_4 rfl (lv_at hl 1 rfl) ?_
    refine lv_iconst C.1 C.2.1 dX10_tried_5 ic_5 ?_
    refine lv_icmp_gt (tgt := 42) C.1 C.2.1 dX10_tried_6 rfl (fun c26 => ?_) (fun c26 => ?_)
    · have hf := (if_pos c26).symm.trans hf
      refine lv_iconst C.1 C.2.1 dX10_tried_42 ic_m1 ?_
      cases hf
      exact m_iret C hW dX10_tried_43
    · have hf := (if_neg c26).symm.trans hf
      refine lv_iload_n C.1 C.2.1 dX10_tried_9 rfl (lv_at hl 3 rfl) ?_
      obtain ⟨q27, h28, hf⟩ := bd hf
      refine m_callS (As := [.int a3]) (rest := []) C hW (cX10_areHours_ok   h28) mlX10_255 rfl hl.1 rfl (Nat.le_of_ble_eq_true rfl) (Nat.le_of_ble_eq_true rfl) (Nat.le_of_ble_eq_true rfl) dX10_tried_10 (fun H locs hW => ?_)
      refine lv_if_eq (tgt := 42) C.1 C.2.1 dX10_tried_13 rfl (fun c29 => ?_) (fun c29 => ?_)
      · have hf := (if_pos c29).symm.trans hf
        refine lv_iconst C.1 C.2.1 dX10_tried_42 ic_m1 ?_
        cases hf
        exact m_iret C hW dX10_tried_43
      · have hf := (if_neg c29).symm.trans hf
        refine lv_iload_n C.1 C.2.1 dX10_tried_16 rfl (lv_at hl 1 rfl) ?_
        refine lv_iconst C.1 C.2.1 dX10_tried_17 ic_2 ?_
        refine lv_icmp_ne (tgt := 38) C.1 C.2.1 dX10_tried_18 rfl (fun c30 => ?_) (fun c30 => ?_)
        · have hf := (if_neg c30).symm.trans hf
          refine lv_iload_n C.1 C.2.1 dX10_tried_38 rfl (lv_at hl 2 rfl) ?_
          refine lv_if_eq (tgt := 44) C.1 C.2.1 dX10_tried_39 rfl (fun c31 => ?_) (fun c31 => ?_)
          · have hf := (if_pos c31).symm.trans hf
            exact kX10_tried_44  C a0 a1 a2 a3 _ _ _ _ ha0 hW (lv_sub hl [0, 1, 2, 3] rfl) hf
          · have hf := (if_neg c31).symm.trans hf
            refine lv_iconst C.1 C.2.1 dX10_tried_42 ic_m1 ?_
            cases hf
            exact m_iret C hW dX10_tried_43
        · have hf := (if_pos c30).symm.trans hf
          refine lv_aload_n C.1 C.2.1 dX10_tried_21 rfl (lv_at hl 0 rfl) ?_
          refine m_getr C hW ha0 flX10_16 (by decide) dX10_tried_22 (fun hk32 => ?_)
          refine m_getr C hW hk32 flX10_141 (by decide) dX10_tried_25 (fun hk33 => ?_)
          refine lv_iload_n C.1 C.2.1 dX10_tried_28 rfl (lv_at hl 2 rfl) ?_
          obtain ⟨q34, h35, hf⟩ := bd hf
          refine m_callV (As := [.int a2]) (rest := []) C hW hk33 (cX7_has_ok  hk33 h35) mlX10_179 (by decide) rfl hl.1 rfl (Nat.le_of_ble_eq_true rfl) (Nat.le_of_ble_eq_true rfl) (Nat.le_of_ble_eq_true rfl) dX10_tried_29 (fun H locs hW => ?_)
          refine lv_if_eq (tgt := 42) C.1 C.2.1 dX10_tried_32 rfl (fun c36 => ?_) (fun c36 => ?_)
          · have hf := (if_pos c36).symm.trans hf
            refine lv_iconst C.1 C.2.1 dX10_tried_42 ic_m1 ?_
            cases hf
            exact m_iret C hW dX10_tried_43
          · have hf := (if_neg c36).symm.trans hf
            refine lv_goto (tgt := 44) C.1 C.2.1 dX10_tried_35 rfl ?_
            exact kX10_tried_44  C a0 a1 a2 a3 _ _ _ _ ha0 hW (lv_sub hl [0, 1, 2, 3] rfl) hf

