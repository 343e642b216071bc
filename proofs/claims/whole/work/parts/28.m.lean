def fX11_ahead (a0 : Nat) (a1 : Int32) (a2 : Int32) (S : MS) : Option (Int32 × MS) := (if a1 < (0 : Int32) then some ((-1 : Int32), pI S a0 0 (0 : Int32)) else (if (99 : Int32) < a1 then some ((-1 : Int32), pI S a0 0 (0 : Int32)) else (if a2 < (0 : Int32) then some ((-1 : Int32), pI S a0 0 (0 : Int32)) else (if a2 ≤ (4 : Int32) then (fX11_copies  a0 (1 : Int32) (0 : Int32) (pI S a0 0 (0 : Int32))).bind fun q5 => (fX11_goesOn  a0 a1 q5).bind fun q7 => (if a2 = (0 : Int32) then (if bnd (1 : Int32) (lnM (gR q7 a0 51)) = true then (fX11_bitsOf  (gI q7 (gR q7 a0 51) (1 : Int32).toNatClampNeg) q7).bind fun q12 => (if bnd (0 : Int32) (lnM (gR q7 a0 51)) = true then (fX11_bitsOf  (gI q7 (gR q7 a0 51) (0 : Int32).toNatClampNeg) q7).bind fun q16 => some (q12 - q16, q7) else none) else none) else if a2 = (1 : Int32) then (fX11_worthOf  a0 (1 : Int32) q7).bind fun q19 => (fX11_worthOf  a0 (0 : Int32) q7).bind fun q21 => some (q19 - q21, q7) else if a2 = (2 : Int32) then (if bnd (1 : Int32) (lnM (gR q7 a0 45)) = true then (if bnd (0 : Int32) (lnM (gR q7 a0 45)) = true then some ((gI q7 (gR q7 a0 45) (1 : Int32).toNatClampNeg) - (gI q7 (gR q7 a0 45) (0 : Int32).toNatClampNeg), q7) else none) else none) else if a2 = (3 : Int32) then (fX11_fondAll  a0 (1 : Int32) q7).bind fun q29 => (fX11_fondAll  a0 (0 : Int32) q7).bind fun q31 => some (q29 - q31, q7) else (if bnd (1 : Int32) (lnM (gR q7 a0 49)) = true then (if bnd (0 : Int32) (lnM (gR q7 a0 49)) = true then some ((gI q7 (gR q7 a0 49) (1 : Int32).toNatClampNeg) - (gI q7 (gR q7 a0 49) (0 : Int32).toNatClampNeg), q7) else none) else none)) else some ((-1 : Int32), pI S a0 0 (0 : Int32))))))
set_option maxRecDepth 100000 in
theorem cX11_ahead_ok {l : Launch} {G : Gv} {L : List Nat} {S : MS} {a0 : Nat} {a1 : Int32} {a2 : Int32} {q : (Int32 × MS)} (ha0 : a0 < shM.1 ∧ shM.2.1 a0 = 11) (hf : fX11_ahead a0 a1 a2 S = some q) : Mt l yX11_ahead cX11_ahead 3 (some .int) (9) G shM L S [.ref (ad L a0), .int a1, .int a2] (some (.int q.1)) q.2 := by
  refine m_enter (lv := [(0, .ref (ad L a0)), (1, .int a1), (2, .int a2)]) (plainFor_of_name (by decide)) (Nat.le_of_ble_eq_true rfl) rfl ?_
  intro p e s m below meth c A ls C hW hl
  unfold fX11_ahead at hf
  refine lv_aload_n C.1 C.2.1 dX11_ahead_0 rfl (lv_at hl 0 rfl) ?_
  refine lv_iconst C.1 C.2.1 dX11_ahead_1 ic_0 ?_
  refine m_puti C hW ha0 fpX11_163 dX11_ahead_2 (fun H locs hW => ?_)
  refine lv_iload_n C.1 C.2.1 dX11_ahead_5 rfl (lv_at hl 1 rfl) ?_
  refine lv_if_lt (tgt := 24) C.1 C.2.1 dX11_ahead_6 rfl (fun c1 => ?_) (fun c1 => ?_)
  · have hf := (if_pos c1).symm.trans hf
    refine lv_iconst C.1 C.2.1 dX11_ahead_24 ic_m1 ?_
    cases hf
    exact m_iret C hW dX11_ahead_25
  · have hf := (if_neg c1).symm.trans hf
    refine lv_iload_n C.1 C.2.1 dX11_ahead_9 rfl (lv_at hl 1 rfl) ?_
    refine lv_bipush C.1 C.2.1 dX11_ahead_10 bp_99 ?_
    refine lv_icmp_gt (tgt := 24) C.1 C.2.1 dX11_ahead_12 rfl (fun c2 => ?_) (fun c2 => ?_)
    · have hf := (if_pos c2).symm.trans hf
      refine lv_iconst C.1 C.2.1 dX11_ahead_24 ic_m1 ?_
      cases hf
      exact m_iret C hW dX11_ahead_25
    · have hf := (if_neg c2).symm.trans hf
      refine lv_iload_n C.1 C.2.1 dX11_ahead_15 rfl (lv_at hl 2 rfl) ?_
      refine lv_if_lt (tgt := 24) C.1 C.2.1 dX11_ahead_16 rfl (fun c3 => ?_) (fun c3 => ?_)
      · have hf := (if_pos c3).symm.trans hf
        refine lv_iconst C.1 C.2.1 dX11_ahead_24 ic_m1 ?_
        cases hf
        exact m_iret C hW dX11_ahead_25
      · have hf := (if_neg c3).symm.trans hf
        refine lv_iload_n C.1 C.2.1 dX11_ahead_19 rfl (lv_at hl 2 rfl) ?_
        refine lv_iconst C.1 C.2.1 dX11_ahead_20 ic_4 ?_
        refine lv_icmp_le (tgt := 26) C.1 C.2.1 dX11_ahead_21 rfl (fun c4 => ?_) (fun c4 => ?_)
        · have hf := (if_pos c4).symm.trans hf
          refine lv_aload_n C.1 C.2.1 dX11_ahead_26 rfl (lv_at hl 0 rfl) ?_
          refine lv_iconst C.1 C.2.1 dX11_ahead_27 ic_1 ?_
          refine lv_iconst C.1 C.2.1 dX11_ahead_28 ic_0 ?_
          obtain ⟨q5, h6, hf⟩ := bd hf
          refine m_callV (As := [.int (1 : Int32), .int (0 : Int32)]) (rest := []) C hW ha0 (cX11_copies_ok  ha0 h6) mlX11_488 (by decide) rfl hl.1 rfl (Nat.le_of_ble_eq_true rfl) (Nat.le_of_ble_eq_true rfl) (Nat.le_of_ble_eq_true rfl) dX11_ahead_29 (fun H locs hW => ?_)
          refine lv_aload_n C.1 C.2.1 dX11_ahead_32 rfl (lv_at hl 0 rfl) ?_
          refine lv_iload_n C.1 C.2.1 dX11_ahead_33 rfl (lv_at hl 1 rfl) ?_
          obtain ⟨q7, h8, hf⟩ := bd hf
          refine m_callV (As := [.int a1]) (rest := []) C hW ha0 (cX11_goesOn_ok  ha0 h8) mlX11_494 (by decide) rfl hl.1 rfl (Nat.le_of_ble_eq_true rfl) (Nat.le_of_ble_eq_true rfl) (Nat.le_of_ble_eq_true rfl) dX11_ahead_34 (fun H locs hW => ?_)
          refine lv_iload_n C.1 C.2.1 dX11_ahead_37 rfl (lv_at hl 2 rfl) ?_
          by_cases c9 : a2 = (0 : Int32)
          · have hf := (if_pos c9).symm.trans hf
            refine lv_tableIn (tgt := 68) C.1 C.2.1 dX11_ahead_38 (by rw [c9]; decide) (by rw [c9]; decide) (by rw [c9]; rfl) rfl ?_
            refine lv_aload_n C.1 C.2.1 dX11_ahead_68 rfl (lv_at hl 0 rfl) ?_
            refine m_getr C hW ha0 flX11_117 (by decide) dX11_ahead_69 (fun hk10 => ?_)
            refine lv_iconst C.1 C.2.1 dX11_ahead_72 ic_1 ?_
            obtain ⟨hb11, hf⟩ := gd hf
            refine m_iald C hW hk10 hb11 dX11_ahead_73 ?_
            obtain ⟨q12, h13, hf⟩ := bd hf
            refine m_callS (As := [.int (gI q7 (gR q7 a0 51) (1 : Int32).toNatClampNeg)]) (rest := []) C hW (cX11_bitsOf_ok   h13) mlX11_361 rfl hl.1 rfl (Nat.le_of_ble_eq_true rfl) (Nat.le_of_ble_eq_true rfl) (Nat.le_of_ble_eq_true rfl) dX11_ahead_74 (fun H locs hW => ?_)
            refine lv_aload_n C.1 C.2.1 dX11_ahead_77 rfl (lv_at hl 0 rfl) ?_
            refine m_getr C hW ha0 flX11_117 (by decide) dX11_ahead_78 (fun hk14 => ?_)
            refine lv_iconst C.1 C.2.1 dX11_ahead_81 ic_0 ?_
            obtain ⟨hb15, hf⟩ := gd hf
            refine m_iald C hW hk14 hb15 dX11_ahead_82 ?_
            obtain ⟨q16, h17, hf⟩ := bd hf
            refine m_callS (As := [.int (gI q7 (gR q7 a0 51) (0 : Int32).toNatClampNeg)]) (rest := [.int q12]) C hW (cX11_bitsOf_ok   h17) mlX11_361 rfl hl.1 rfl (Nat.le_of_ble_eq_true rfl) (Nat.le_of_ble_eq_true rfl) (Nat.le_of_ble_eq_true rfl) dX11_ahead_83 (fun H locs hW => ?_)
            refine lv_isub C.1 C.2.1 dX11_ahead_86 ?_
            cases hf
            exact m_iret C hW dX11_ahead_87
          have hf := (if_neg c9).symm.trans hf
          by_cases c18 : a2 = (1 : Int32)
          · have hf := (if_pos c18).symm.trans hf
            refine lv_tableIn (tgt := 88) C.1 C.2.1 dX11_ahead_38 (by rw [c18]; decide) (by rw [c18]; decide) (by rw [c18]; rfl) rfl ?_
            refine lv_aload_n C.1 C.2.1 dX11_ahead_88 rfl (lv_at hl 0 rfl) ?_
            refine lv_iconst C.1 C.2.1 dX11_ahead_89 ic_1 ?_
            obtain ⟨q19, h20, hf⟩ := bd hf
            refine m_callV (As := [.int (1 : Int32)]) (rest := []) C hW ha0 (cX11_worthOf_ok  ha0 h20) mlX11_497 (by decide) rfl hl.1 rfl (Nat.le_of_ble_eq_true rfl) (Nat.le_of_ble_eq_true rfl) (Nat.le_of_ble_eq_true rfl) dX11_ahead_90 (fun H locs hW => ?_)
            refine lv_aload_n C.1 C.2.1 dX11_ahead_93 rfl (lv_at hl 0 rfl) ?_
            refine lv_iconst C.1 C.2.1 dX11_ahead_94 ic_0 ?_
            obtain ⟨q21, h22, hf⟩ := bd hf
            refine m_callV (As := [.int (0 : Int32)]) (rest := [.int q19]) C hW ha0 (cX11_worthOf_ok  ha0 h22) mlX11_497 (by decide) rfl hl.1 rfl (Nat.le_of_ble_eq_true rfl) (Nat.le_of_ble_eq_true rfl) (Nat.le_of_ble_eq_true rfl) dX11_ahead_95 (fun H locs hW => ?_)
            refine lv_isub C.1 C.2.1 dX11_ahead_98 ?_
            cases hf
            exact m_iret C hW dX11_ahead_99
          have hf := (if_neg c18).symm.trans hf
          by_cases c23 : a2 = (2 : Int32)
          · have hf := (if_pos c23).symm.trans hf
            refine lv_tableIn (tgt := 100) C.1 C.2.1 dX11_ahead_38 (by rw [c23]; decide) (by rw [c23]; decide) (by rw [c23]; rfl) rfl ?_
            refine lv_aload_n C.1 C.2.1 dX11_ahead_100 rfl (lv_at hl 0 rfl) ?_
            refine m_getr C hW ha0 flX11_99 (by decide) dX11_ahead_101 (fun hk24 => ?_)
            refine lv_iconst C.1 C.2.1 dX11_ahead_104 ic_1 ?_
            obtain ⟨hb25, hf⟩ := gd hf
            refine m_iald C hW hk24 hb25 dX11_ahead_105 ?_
            refine lv_aload_n C.1 C.2.1 dX11_ahead_106 rfl (lv_at hl 0 rfl) ?_
            refine m_getr C hW ha0 flX11_99 (by decide) dX11_ahead_107 (fun hk26 => ?_)
            refine lv_iconst C.1 C.2.1 dX11_ahead_110 ic_0 ?_
            obtain ⟨hb27, hf⟩ := gd hf
            refine m_iald C hW hk26 hb27 dX11_ahead_111 ?_
            refine lv_isub C.1 C.2.1 dX11_ahead_112 ?_
            cases hf
            exact m_iret C hW dX11_ahead_113
          have hf := (if_neg c23).symm.trans hf
          by_cases c28 : a2 = (3 : Int32)
          · have hf := (if_pos c28).symm.trans hf
            refine lv_tableIn (tgt := 114) C.1 C.2.1 dX11_ahead_38 (by rw [c28]; decide) (by rw [c28]; decide) (by rw [c28]; rfl) rfl ?_
            refine lv_aload_n C.1 C.2.1 dX11_ahead_114 rfl (lv_at hl 0 rfl) ?_
            refine lv_iconst C.1 C.2.1 dX11_ahead_115 ic_1 ?_
            obtain ⟨q29, h30, hf⟩ := bd hf
            refine m_callV (As := [.int (1 : Int32)]) (rest := []) C hW ha0 (cX11_fondAll_ok  ha0 h30) mlX11_500 (by decide) rfl hl.1 rfl (Nat.le_of_ble_eq_true rfl) (Nat.le_of_ble_eq_true rfl) (Nat.le_of_ble_eq_true rfl) dX11_ahead_116 (fun H locs hW => ?_)
            refine lv_aload_n C.1 C.2.1 dX11_ahead_119 rfl (lv_at hl 0 rfl) ?_
            refine lv_iconst C.1 C.2.1 dX11_ahead_120 ic_0 ?_
            obtain ⟨q31, h32, hf⟩ := bd hf
            refine m_callV (As := [.int (0 : Int32)]) (rest := [.int q29]) C hW ha0 (cX11_fondAll_ok  ha0 h32) mlX11_500 (by decide) rfl hl.1 rfl (Nat.le_of_ble_eq_true rfl) (Nat.le_of_ble_eq_true rfl) (Nat.le_of_ble_eq_true rfl) dX11_ahead_121 (fun H locs hW => ?_)
            refine lv_isub C.1 C.2.1 dX11_ahead_124 ?_
            cases hf
            exact m_iret C hW dX11_ahead_125
          have hf := (if_neg c28).symm.trans hf
          by_cases ho37 : a2.toInt < 0 ∨ 3 < a2.toInt
          · refine lv_tableOut (tgt := 126) C.1 C.2.1 dX11_ahead_38 ho37 rfl ?_
            refine lv_aload_n C.1 C.2.1 dX11_ahead_126 rfl (lv_at hl 0 rfl) ?_
            refine m_getr C hW ha0 flX11_111 (by decide) dX11_ahead_127 (fun hk33 => ?_)
            refine lv_iconst C.1 C.2.1 dX11_ahead_130 ic_1 ?_
            obtain ⟨hb34, hf⟩ := gd hf
            refine m_iald C hW hk33 hb34 dX11_ahead_131 ?_
            refine lv_aload_n C.1 C.2.1 dX11_ahead_132 rfl (lv_at hl 0 rfl) ?_
            refine m_getr C hW ha0 flX11_111 (by decide) dX11_ahead_133 (fun hk35 => ?_)
            refine lv_iconst C.1 C.2.1 dX11_ahead_136 ic_0 ?_
            obtain ⟨hb36, hf⟩ := gd hf
            refine m_iald C hW hk35 hb36 dX11_ahead_137 ?_
            refine lv_isub C.1 C.2.1 dX11_ahead_138 ?_
            cases hf
            exact m_iret C hW dX11_ahead_139
          · exfalso
            have := tn_e c9 (0) (by decide)
            have := tn_e c18 (1) (by decide)
            have := tn_e c23 (2) (by decide)
            have := tn_e c28 (3) (by decide)
            omega
        · have hf := (if_neg c4).symm.trans hf
          refine lv_iconst C.1 C.2.1 dX11_ahead_24 ic_m1 ?_
          cases hf
          exact m_iret C hW dX11_ahead_25

def fX11_homes_219 (K144 : Nat → Int32 → Int32 → Int32 → Int32 → Int32 → MS → Option (Int32 × MS)) (x0 : Nat) (x1 : Int32) (x2 : Int32) (x3 : Int32) (x4 : Int32) (x5 : Int32) (S : MS) : Option (Int32 × MS) := K144 x0 x1 x2 x3 x4 (x5 + (1 : Int32)) S
def fX11_homes_216 (K144 : Nat → Int32 → Int32 → Int32 → Int32 → Int32 → MS → Option (Int32 × MS)) (x0 : Nat) (x1 : Int32) (x2 : Int32) (x3 : Int32) (x4 : Int32) (x5 : Int32) (S : MS) : Option (Int32 × MS) := fX11_homes_219 K144 x0 x1 x2 (x3 + (1 : Int32)) x4 x5 S
def fX11_homes_144  : Nat → Nat → Int32 → Int32 → Int32 → Int32 → Int32 → MS → Option (Int32 × MS)
  | 0, _, _, _, _, _, _, _ => none
  | n + 1, x0, x1, x2, x3, x4, x5, S => (if (64 : Int32) ≤ x5 then (if x1 = (0 : Int32) then some (x3, S) else some (x4, S)) else (fX11_isCell  x0 (x5 / (8 : Int32)) (x5 - (x5 / (8 : Int32)) * (8 : Int32)) S).bind fun q3 => (if q3 = (0 : Int32) then fX11_homes_219 (fX11_homes_144  n) x0 x1 x2 x3 x4 x5 S else (fX11_isWall  x0 (x5 / (8 : Int32)) (x5 - (x5 / (8 : Int32)) * (8 : Int32)) S).bind fun q6 => (if q6 = (0 : Int32) then (fX11_fitsHome  x0 (x5 / (8 : Int32)) (x5 - (x5 / (8 : Int32)) * (8 : Int32)) x2 S).bind fun q9 => (if q9.1 = (0 : Int32) then fX11_homes_219 (fX11_homes_144  n) x0 x1 x2 x3 x4 x5 q9.2 else (if x3 = (0 : Int32) then fX11_homes_216 (fX11_homes_144  n) x0 x1 x2 x3 (((10 : Int32) * (x5 / (8 : Int32))) + (x5 - (x5 / (8 : Int32)) * (8 : Int32))) x5 q9.2 else fX11_homes_216 (fX11_homes_144  n) x0 x1 x2 x3 x4 x5 q9.2)) else fX11_homes_219 (fX11_homes_144  n) x0 x1 x2 x3 x4 x5 S)))
def fX11_homes_129 (K91 : Nat → Int32 → Int32 → Int32 → MS → Option (Int32 × MS)) (x0 : Nat) (x1 : Int32) (x2 : Int32) (x3 : Int32) (S : MS) : Option (Int32 × MS) := K91 x0 x1 x2 (x3 + (1 : Int32)) S
def fX11_homes_91  : Nat → Nat → Int32 → Int32 → Int32 → MS → Option (Int32 × MS)
  | 0, _, _, _, _, _ => none
  | n + 1, x0, x1, x2, x3, S => (fX11_knownMany  x0 S).bind fun q13 => (if q13 ≤ x3 then fX11_homes_144  1000 x0 x1 x2 (0 : Int32) (-2 : Int32) (0 : Int32) S else (if bnd x3 (lnM (gR S x0 73)) = true then (if gI S (gR S x0 73) x3.toNatClampNeg = (0 : Int32) then (if bnd x3 (lnM (gR S x0 72)) = true then (if gI S (gR S x0 72) x3.toNatClampNeg = (-1 : Int32) then (if bnd x3 (lnM (gR S x0 68)) = true then fX11_homes_129 (fX11_homes_91  n) x0 x1 (if x2 < (gI S (gR S x0 68) x3.toNatClampNeg) then (gI S (gR S x0 68) x3.toNatClampNeg) else x2) x3 S else none) else fX11_homes_129 (fX11_homes_91  n) x0 x1 x2 x3 S) else none) else fX11_homes_129 (fX11_homes_91  n) x0 x1 x2 x3 S) else none))
def fX11_homes_83 (K48 : Nat → Int32 → Int32 → Int32 → MS → Option (Int32 × MS)) (x0 : Nat) (x1 : Int32) (x2 : Int32) (x3 : Int32) (S : MS) : Option (Int32 × MS) := K48 x0 x1 x2 (x3 + (-1 : Int32)) S
def fX11_homes_48  : Nat → Nat → Int32 → Int32 → Int32 → MS → Option (Int32 × MS)
  | 0, _, _, _, _, _ => none
  | n + 1, x0, x1, x2, x3, S => (if x3 < (0 : Int32) then fX11_homes_91  1000 x0 x1 x2 (0 : Int32) S else (if bnd x3 (lnM (gR S x0 73)) = true then (if gI S (gR S x0 73) x3.toNatClampNeg = (0 : Int32) then (if bnd x3 (lnM (gR S x0 72)) = true then (if gI S (gR S x0 72) x3.toNatClampNeg = (-1 : Int32) then fX11_homes_83 (fX11_homes_48  n) x0 x1 x2 x3 S else (if bnd x3 (lnM (gR S x0 72)) = true then (if bnd (gI S (gR S x0 72) x3.toNatClampNeg) (lnM (gR S x0 73)) = true then fX11_homes_83 (fX11_homes_48  n) x0 x1 x2 x3 (pI S (gR S x0 73) ((gI S (gR S x0 72) x3.toNatClampNeg).toNatClampNeg) (vp_nar .boolean (1 : Int32))) else none) else none)) else none) else fX11_homes_83 (fX11_homes_48  n) x0 x1 x2 x3 S) else none))
def fX11_homes_20  : Nat → Nat → Int32 → Int32 → Int32 → MS → Option (Int32 × MS)
  | 0, _, _, _, _, _ => none
  | n + 1, x0, x1, x2, x3, S => (fX11_knownMany  x0 S).bind fun q35 => (if q35 ≤ x3 then (fX11_knownMany  x0 S).bind fun q38 => fX11_homes_48  1000 x0 x1 x2 (q38 - (1 : Int32)) S else (if bnd x3 (lnM (gR S x0 73)) = true then (fX11_homes_20  n) x0 x1 x2 (x3 + (1 : Int32)) (pI S (gR S x0 73) x3.toNatClampNeg (vp_nar .boolean (0 : Int32))) else none))
def fX11_homes (a0 : Nat) (a1 : Int32) (S : MS) : Option (Int32 × MS) := (if a1 < (0 : Int32) then some ((-1 : Int32), pI S a0 0 (0 : Int32)) else (if a1 ≤ (1 : Int32) then fX11_homes_20  1000 a0 a1 (0 : Int32) (0 : Int32) (pI S a0 0 (0 : Int32)) else some ((-1 : Int32), pI S a0 0 (0 : Int32))))
set_option maxRecDepth 100000 in
theorem kX11_homes_219 {p : Program} {l : Launch} {e : Env} {s : State} {m : MethodId} {av : Array Value} {below : List Frame} {meth : Method} {c : Code} {A : Nat → Prop} {G : Gv} {L : List Nat} {q : (Int32 × MS)} {K144 : Nat → Int32 → Int32 → Int32 → Int32 → Int32 → MS → Option (Int32 × MS)} (hK144 : ∀ (x0 : Nat) (x1 : Int32) (x2 : Int32) (x3 : Int32) (x4 : Int32) (x5 : Int32) (S : MS) (H : Heap) (locs : List Loc) (ls : Array Slot), (x0 < shM.1 ∧ shM.2.1 x0 = 11) → mW G shM L S A s H locs → lv_has ls 8 [(0, .ref (ad L x0)), (1, .int x1), (2, .int x2), (3, .int x3), (4, .int x4), (5, .int x5)] → K144 x0 x1 x2 x3 x4 x5 S = some q → W p l e (rmd (9)) s m av below meth c H locs 0 0 (MQ below (mQ G shM L q.2 (some (.int q.1)) A) av s 0 0 A) (F0 m 144 ls [])) (C : mC p s m av meth c cX11_homes RX11 8 (some .int)) : ∀ (x0 : Nat) (x1 : Int32) (x2 : Int32) (x3 : Int32) (x4 : Int32) (x5 : Int32) (S : MS) (H : Heap) (locs : List Loc) (ls : Array Slot), (x0 < shM.1 ∧ shM.2.1 x0 = 11) → mW G shM L S A s H locs → lv_has ls 8 [(0, .ref (ad L x0)), (1, .int x1), (2, .int x2), (3, .int x3), (4, .int x4), (5, .int x5)] → fX11_homes_219 K144 x0 x1 x2 x3 x4 x5 S = some q → W p l e (rmd (9)) s m av below meth c H locs 0 0 (MQ below (mQ G shM L q.2 (some (.int q.1)) A) av s 0 0 A) (F0 m 219 ls []) := by
  intro x0 x1 x2 x3 x4 x5 S H locs ls hx0 hW hl hf
  unfold fX11_homes_219 at hf
  refine lv_iinc (v := x5 + (1 : Int32)) (lv' := [(5, .int (x5 + (1 : Int32))), (0, .ref (ad L x0)), (1, .int x1), (2, .int x2), (3, .int x3), (4, .int x4)]) C.1 C.2.1 dX11_homes_219 hl (k := 5) rfl (congrArg (fun z => x5 + z) ic_1) (by decide) rfl (fun ls hl => ?_)
  refine lv_goto (tgt := 144) C.1 C.2.1 dX11_homes_222 rfl ?_
  exact hK144 x0 x1 x2 x3 x4 (x5 + (1 : Int32)) _ _ _ _ hx0 hW (lv_sub hl [1, 2, 3, 4, 5, 0] rfl) hf

set_option maxRecDepth 100000 in
theorem kX11_homes_216 {p : Program} {l : Launch} {e : Env} {s : State} {m : MethodId} {av : Array Value} {below : List Frame} {meth : Method} {c : Code} {A : Nat → Prop} {G : Gv} {L : List Nat} {q : (Int32 × MS)} {K144 : Nat → Int32 → Int32 → Int32 → Int32 → Int32 → MS → Option (Int32 × MS)} (hK144 : ∀ (x0 : Nat) (x1 : Int32) (x2 : Int32) (x3 : Int32) (x4 : Int32) (x5 : Int32) (S : MS) (H : Heap) (locs : List Loc) (ls : Array Slot), (x0 < shM.1 ∧ shM.2.1 x0 = 11) → mW G shM L S A s H locs → lv_has ls 8 [(0, .ref (ad L x0)), (1, .int x1), (2, .int x2), (3, .int x3), (4, .int x4), (5, .int x5)] → K144 x0 x1 x2 x3 x4 x5 S = some q → W p l e (rmd (9)) s m av below meth c H locs 0 0 (MQ below (mQ G shM L q.2 (some (.int q.1)) A) av s 0 0 A) (F0 m 144 ls [])) (C : mC p s m av meth c cX11_homes RX11 8 (some .int)) : ∀ (x0 : Nat) (x1 : Int32) (x2 : Int32) (x3 : Int32) (x4 : Int32) (x5 : Int32) (S : MS) (H : Heap) (locs : List Loc) (ls : Array Slot), (x0 < shM.1 ∧ shM.2.1 x0 = 11) → mW G shM L S A s H locs → lv_has ls 8 [(0, .ref (ad L x0)), (1, .int x1), (2, .int x2), (3, .int x3), (4, .int x4), (5, .int x5)] → fX11_homes_216 K144 x0 x1 x2 x3 x4 x5 S = some q → W p l e (rmd (9)) s m av below meth c H locs 0 0 (MQ below (mQ G shM L q.2 (some (.int q.1)) A) av s 0 0 A) (F0 m 216 ls []) := by
  intro x0 x1 x2 x3 x4 x5 S H locs ls hx0 hW hl hf
  unfold fX11_homes_216 at hf
  refine lv_iinc (v := x3 + (1 : Int32)) (lv' := [(3, .int (x3 + (1 : Int32))), (0, .ref (ad L x0)), (1, .int x1), (2, .int x2), (4, .int x4), (5, .int x5)]) C.1 C.2.1 dX11_homes_216 hl (k := 3) rfl (congrArg (fun z => x3 + z) ic_1) (by decide) rfl (fun ls hl => ?_)
  exact kX11_homes_219 hK144 C x0 x1 x2 (x3 + (1 : Int32)) x4 x5 _ _ _ _ hx0 hW (lv_sub hl [1, 2, 3, 0, 4, 5] rfl) hf

set_option maxRecDepth 100000 in
theorem kX11_homes_144 {p : Program} {l : Launch} {e : Env} {s : State} {m : MethodId} {av : Array Value} {below : List Frame} {meth : Method} {c : Code} {A : Nat → Prop} {G : Gv} {L : List Nat} {q : (Int32 × MS)}  (C : mC p s m av meth c cX11_homes RX11 8 (some .int)) : ∀ (n : Nat) (x0 : Nat) (x1 : Int32) (x2 : Int32) (x3 : Int32) (x4 : Int32) (x5 : Int32) (S : MS) (H : Heap) (locs : List Loc) (ls : Array Slot), (x0 < shM.1 ∧ shM.2.1 x0 = 11) → mW G shM L S A s H locs → lv_has ls 8 [(0, .ref (ad L x0)), (1, .int x1), (2, .int x2), (3, .int x3), (4, .int x4), (5, .int x5)] → fX11_homes_144  n x0 x1 x2 x3 x4 x5 S = some q → W p l e (rmd (9)) s m av below meth c H locs 0 0 (MQ below (mQ G shM L q.2 (some (.int q.1)) A) av s 0 0 A) (F0 m 144 ls []) := by
  intro n
  induction n with
  | zero =>
    intro x0 x1 x2 x3 x4 x5 S H locs ls hx0 hW hl hf
    rw [fX11_homes_144] at hf
    cases hf
  | succ n ih =>
    intro x0 x1 x2 x3 x4 x5 S H locs ls hx0 hW hl hf
    rw [fX11_homes_144] at hf
    refine lv_iload C.1 C.2.1 dX11_homes_144 (lv_at hl 5 rfl) ?_
    refine lv_bipush C.1 C.2.1 dX11_homes_146 bp_64 ?_
    refine lv_icmp_ge (tgt := 225) C.1 C.2.1 dX11_homes_148 rfl (fun c1 => ?_) (fun c1 => ?_)
    · have hf := (if_pos c1).symm.trans hf
      refine lv_iload_n C.1 C.2.1 dX11_homes_225 rfl (lv_at hl 1 rfl) ?_
      refine lv_if_ne (tgt := 233) C.1 C.2.1 dX11_homes_226 rfl (fun c2 => ?_) (fun c2 => ?_)
      · have hf := (if_neg c2).symm.trans hf
        refine lv_iload C.1 C.2.1 dX11_homes_233 (lv_at hl 4 rfl) ?_
        cases hf
        exact m_iret C hW dX11_homes_235
      · have hf := (if_pos c2).symm.trans hf
        refine lv_iload_n C.1 C.2.1 dX11_homes_229 rfl (lv_at hl 3 rfl) ?_
        refine lv_goto (tgt := 235) C.1 C.2.1 dX11_homes_230 rfl ?_
        cases hf
        exact m_iret C hW dX11_homes_235
    · have hf := (if_neg c1).symm.trans hf
      refine lv_iload C.1 C.2.1 dX11_homes_151 (lv_at hl 5 rfl) ?_
      refine lv_bipush C.1 C.2.1 dX11_homes_153 bp_8 ?_
      refine lv_idiv C.1 C.2.1 dX11_homes_155 (by decide) ?_
      refine lv_istore (lv' := [(6, .int (x5 / (8 : Int32))), (0, .ref (ad L x0)), (1, .int x1), (2, .int x2), (3, .int x3), (4, .int x4), (5, .int x5)]) C.1 C.2.1 dX11_homes_156 hl (by decide) rfl (fun ls hl => ?_)
      refine lv_iload C.1 C.2.1 dX11_homes_158 (lv_at hl 6 rfl) ?_
      refine lv_bipush C.1 C.2.1 dX11_homes_160 bp_8 ?_
      refine lv_irem C.1 C.2.1 dX11_homes_162 (by decide) ?_
      refine lv_istore (lv' := [(7, .int (x5 - (x5 / (8 : Int32)) * (8 : Int32))), (6, .int (x5 / (8 : Int32))), (0, .ref (ad L x0)), (1, .int x1), (2, .int x2), (3, .int x3), (4, .int x4), (5, .int x5)]) C.1 C.2.1 dX11_homes_163 hl (by decide) rfl (fun ls hl => ?_)
      refine lv_aload_n C.1 C.2.1 dX11_homes_165 rfl (lv_at hl 2 rfl) ?_
      refine lv_iload C.1 C.2.1 dX11_homes_166 (lv_at hl 1 rfl) ?_
      refine lv_iload C.1 C.2.1 dX11_homes_168 (lv_at hl 0 rfl) ?_
      obtain ⟨q3, h4, hf⟩ := bd hf
      refine m_callV (As := [.int (x5 / (8 : Int32)), .int (x5 - (x5 / (8 : Int32)) * (8 : Int32))]) (rest := []) C hW hx0 (cX11_isCell_ok  hx0 h4) mlX11_399 (by decide) rfl hl.1 rfl (Nat.le_of_ble_eq_true rfl) (Nat.le_of_ble_eq_true rfl) (Nat.le_of_ble_eq_true rfl) dX11_homes_170 (fun H locs hW => ?_)
      refine lv_if_eq (tgt := 219) C.1 C.2.1 dX11_homes_173 rfl (fun c5 => ?_) (fun c5 => ?_)
      · have hf := (if_pos c5).symm.trans hf
        exact kX11_homes_219 ih C x0 x1 x2 x3 x4 x5 _ _ _ _ hx0 hW (lv_sub hl [2, 3, 4, 5, 6, 7] rfl) hf
      · have hf := (if_neg c5).symm.trans hf
        refine lv_aload_n C.1 C.2.1 dX11_homes_176 rfl (lv_at hl 2 rfl) ?_
        refine lv_iload C.1 C.2.1 dX11_homes_177 (lv_at hl 1 rfl) ?_
        refine lv_iload C.1 C.2.1 dX11_homes_179 (lv_at hl 0 rfl) ?_
        obtain ⟨q6, h7, hf⟩ := bd hf
        refine m_callV (As := [.int (x5 / (8 : Int32)), .int (x5 - (x5 / (8 : Int32)) * (8 : Int32))]) (rest := []) C hW hx0 (cX11_isWall_ok  hx0 h7) mlX11_430 (by decide) rfl hl.1 rfl (Nat.le_of_ble_eq_true rfl) (Nat.le_of_ble_eq_true rfl) (Nat.le_of_ble_eq_true rfl) dX11_homes_181 (fun H locs hW => ?_)
        refine lv_if_ne (tgt := 219) C.1 C.2.1 dX11_homes_184 rfl (fun c8 => ?_) (fun c8 => ?_)
        · have hf := (if_neg c8).symm.trans hf
          exact kX11_homes_219 ih C x0 x1 x2 x3 x4 x5 _ _ _ _ hx0 hW (lv_sub hl [2, 3, 4, 5, 6, 7] rfl) hf
        · have hf := (if_pos c8).symm.trans hf
          refine lv_aload_n C.1 C.2.1 dX11_homes_187 rfl (lv_at hl 2 rfl) ?_
          refine lv_iload C.1 C.2.1 dX11_homes_188 (lv_at hl 1 rfl) ?_
          refine lv_iload C.1 C.2.1 dX11_homes_190 (lv_at hl 0 rfl) ?_
          refine lv_iload_n C.1 C.2.1 dX11_homes_192 rfl (lv_at hl 4 rfl) ?_
          obtain ⟨q9, h10, hf⟩ := bd hf
          refine m_callV (As := [.int (x5 / (8 : Int32)), .int (x5 - (x5 / (8 : Int32)) * (8 : Int32)), .int x2]) (rest := []) C hW hx0 (cX11_fitsHome_ok  hx0 h10) mlX11_537 (by decide) rfl hl.1 rfl (Nat.le_of_ble_eq_true rfl) (Nat.le_of_ble_eq_true rfl) (Nat.le_of_ble_eq_true rfl) dX11_homes_193 (fun H locs hW => ?_)
          refine lv_if_ne (tgt := 202) C.1 C.2.1 dX11_homes_196 rfl (fun c11 => ?_) (fun c11 => ?_)
          · have hf := (if_neg c11).symm.trans hf
            refine lv_iload_n C.1 C.2.1 dX11_homes_202 rfl (lv_at hl 5 rfl) ?_
            refine lv_if_ne (tgt := 216) C.1 C.2.1 dX11_homes_203 rfl (fun c12 => ?_) (fun c12 => ?_)
            · have hf := (if_neg c12).symm.trans hf
              exact kX11_homes_216 ih C x0 x1 x2 x3 x4 x5 _ _ _ _ hx0 hW (lv_sub hl [2, 3, 4, 5, 6, 7] rfl) hf
            · have hf := (if_pos c12).symm.trans hf
              refine lv_bipush C.1 C.2.1 dX11_homes_206 bp_10 ?_
              refine lv_iload C.1 C.2.1 dX11_homes_208 (lv_at hl 1 rfl) ?_
              refine lv_imul C.1 C.2.1 dX11_homes_210 ?_
              refine lv_iload C.1 C.2.1 dX11_homes_211 (lv_at hl 0 rfl) ?_
              refine lv_iadd C.1 C.2.1 dX11_homes_213 ?_
              refine lv_istore (lv' := [(4, .int (((10 : Int32) * (x5 / (8 : Int32))) + (x5 - (x5 / (8 : Int32)) * (8 : Int32)))), (7, .int (x5 - (x5 / (8 : Int32)) * (8 : Int32))), (6, .int (x5 / (8 : Int32))), (0, .ref (ad L x0)), (1, .int x1), (2, .int x2), (3, .int x3), (5, .int x5)]) C.1 C.2.1 dX11_homes_214 hl (by decide) rfl (fun ls hl => ?_)
              exact kX11_homes_216 ih C x0 x1 x2 x3 (((10 : Int32) * (x5 / (8 : Int32))) + (x5 - (x5 / (8 : Int32)) * (8 : Int32))) x5 _ _ _ _ hx0 hW (lv_sub hl [3, 4, 5, 6, 0, 7] rfl) hf
          · have hf := (if_pos c11).symm.trans hf
            refine lv_goto (tgt := 219) C.1 C.2.1 dX11_homes_199 rfl ?_
            exact kX11_homes_219 ih C x0 x1 x2 x3 x4 x5 _ _ _ _ hx0 hW (lv_sub hl [2, 3, 4, 5, 6, 7] rfl) hf

set_option maxRecDepth 100000 in
theorem kX11_homes_129 {p : Program} {l : Launch} {e : Env} {s : State} {m : MethodId} {av : Array Value} {below : List Frame} {meth : Method} {c : Code} {A : Nat → Prop} {G : Gv} {L : List Nat} {q : (Int32 × MS)} {K91 : Nat → Int32 → Int32 → Int32 → MS → Option (Int32 × MS)} (hK91 : ∀ (x0 : Nat) (x1 : Int32) (x2 : Int32) (x3 : Int32) (S : MS) (H : Heap) (locs : List Loc) (ls : Array Slot), (x0 < shM.1 ∧ shM.2.1 x0 = 11) → mW G shM L S A s H locs → lv_has ls 8 [(0, .ref (ad L x0)), (1, .int x1), (2, .int x2), (3, .int x3)] → K91 x0 x1 x2 x3 S = some q → W p l e (rmd (9)) s m av below meth c H locs 0 0 (MQ below (mQ G shM L q.2 (some (.int q.1)) A) av s 0 0 A) (F0 m 91 ls [])) (C : mC p s m av meth c cX11_homes RX11 8 (some .int)) : ∀ (x0 : Nat) (x1 : Int32) (x2 : Int32) (x3 : Int32) (S : MS) (H : Heap) (locs : List Loc) (ls : Array Slot), (x0 < shM.1 ∧ shM.2.1 x0 = 11) → mW G shM L S A s H locs → lv_has ls 8 [(0, .ref (ad L x0)), (1, .int x1), (2, .int x2), (3, .int x3)] → fX11_homes_129 K91 x0 x1 x2 x3 S = some q → W p l e (rmd (9)) s m av below meth c H locs 0 0 (MQ below (mQ G shM L q.2 (some (.int q.1)) A) av s 0 0 A) (F0 m 129 ls []) := by
  intro x0 x1 x2 x3 S H locs ls hx0 hW hl hf
  unfold fX11_homes_129 at hf
  refine lv_iinc (v := x3 + (1 : Int32)) (lv' := [(3, .int (x3 + (1 : Int32))), (0, .ref (ad L x0)), (1, .int x1), (2, .int x2)]) C.1 C.2.1 dX11_homes_129 hl (k := 3) rfl (congrArg (fun z => x3 + z) ic_1) (by decide) rfl (fun ls hl => ?_)
  refine lv_goto (tgt := 91) C.1 C.2.1 dX11_homes_132 rfl ?_
  exact hK91 x0 x1 x2 (x3 + (1 : Int32)) _ _ _ _ hx0 hW (lv_sub hl [1, 2, 3, 0] rfl) hf

set_option maxRecDepth 100000 in
theorem kX11_homes_91 {p : Program} {l : Launch} {e : Env} {s : State} {m : MethodId} {av : Array Value} {below : List Frame} {meth : Method} {c : Code} {A : Nat → Prop} {G : Gv} {L : List Nat} {q : (Int32 × MS)}  (C : mC p s m av meth c cX11_homes RX11 8 (some .int)) : ∀ (n : Nat) (x0 : Nat) (x1 : Int32) (x2 : Int32) (x3 : Int32) (S : MS) (H : Heap) (locs : List Loc) (ls : Array Slot), (x0 < shM.1 ∧ shM.2.1 x0 = 11) → mW G shM L S A s H locs → lv_has ls 8 [(0, .ref (ad L x0)), (1, .int x1), (2, .int x2), (3, .int x3)] → fX11_homes_91  n x0 x1 x2 x3 S = some q → W p l e (rmd (9)) s m av below meth c H locs 0 0 (MQ below (mQ G shM L q.2 (some (.int q.1)) A) av s 0 0 A) (F0 m 91 ls []) := by
  intro n
  induction n with
  | zero =>
    intro x0 x1 x2 x3 S H locs ls hx0 hW hl hf
    rw [fX11_homes_91] at hf
    cases hf
  | succ n ih =>
    intro x0 x1 x2 x3 S H locs ls hx0 hW hl hf
    rw [fX11_homes_91] at hf
    refine lv_iload_n C.1 C.2.1 dX11_homes_91 rfl (lv_at hl 3 rfl) ?_
    refine lv_aload_n C.1 C.2.1 dX11_homes_92 rfl (lv_at hl 0 rfl) ?_
    obtain ⟨q13, h14, hf⟩ := bd hf
    refine m_callV (As := []) (rest := [.int x3]) C hW hx0 (cX11_knownMany_ok  hx0 h14) mlX11_529 (by decide) rfl hl.1 rfl (Nat.le_of_ble_eq_true rfl) (Nat.le_of_ble_eq_true rfl) (Nat.le_of_ble_eq_true rfl) dX11_homes_93 (fun H locs hW => ?_)
    refine lv_icmp_ge (tgt := 135) C.1 C.2.1 dX11_homes_96 rfl (fun c15 => ?_) (fun c15 => ?_)
    · have hf := (if_pos c15).symm.trans hf
      refine lv_iconst C.1 C.2.1 dX11_homes_135 ic_0 ?_
      refine lv_istore_n (lv' := [(3, .int (0 : Int32)), (0, .ref (ad L x0)), (1, .int x1), (2, .int x2)]) C.1 C.2.1 dX11_homes_136 rfl hl (by decide) rfl (fun ls hl => ?_)
      refine lv_bipush C.1 C.2.1 dX11_homes_137 bp_m2 ?_
      refine lv_istore (lv' := [(4, .int (-2 : Int32)), (3, .int (0 : Int32)), (0, .ref (ad L x0)), (1, .int x1), (2, .int x2)]) C.1 C.2.1 dX11_homes_139 hl (by decide) rfl (fun ls hl => ?_)
      refine lv_iconst C.1 C.2.1 dX11_homes_141 ic_0 ?_
      refine lv_istore (lv' := [(5, .int (0 : Int32)), (4, .int (-2 : Int32)), (3, .int (0 : Int32)), (0, .ref (ad L x0)), (1, .int x1), (2, .int x2)]) C.1 C.2.1 dX11_homes_142 hl (by decide) rfl (fun ls hl => ?_)
      exact kX11_homes_144  C 1000 x0 x1 x2 (0 : Int32) (-2 : Int32) (0 : Int32) _ _ _ _ hx0 hW (lv_sub hl [3, 4, 5, 2, 1, 0] rfl) hf
    · have hf := (if_neg c15).symm.trans hf
      refine lv_aload_n C.1 C.2.1 dX11_homes_99 rfl (lv_at hl 0 rfl) ?_
      refine m_getr C hW hx0 flX11_157 (by decide) dX11_homes_100 (fun hk16 => ?_)
      refine lv_iload_n C.1 C.2.1 dX11_homes_103 rfl (lv_at hl 3 rfl) ?_
      obtain ⟨hb17, hf⟩ := gd hf
      refine m_zald C hW hk16 hb17 dX11_homes_104 ?_
      refine lv_if_ne (tgt := 129) C.1 C.2.1 dX11_homes_105 rfl (fun c18 => ?_) (fun c18 => ?_)
      · have hf := (if_neg c18).symm.trans hf
        exact kX11_homes_129 ih C x0 x1 x2 x3 _ _ _ _ hx0 hW (lv_sub hl [0, 1, 2, 3] rfl) hf
      · have hf := (if_pos c18).symm.trans hf
        refine lv_aload_n C.1 C.2.1 dX11_homes_108 rfl (lv_at hl 0 rfl) ?_
        refine m_getr C hW hx0 flX11_154 (by decide) dX11_homes_109 (fun hk19 => ?_)
        refine lv_iload_n C.1 C.2.1 dX11_homes_112 rfl (lv_at hl 3 rfl) ?_
        obtain ⟨hb20, hf⟩ := gd hf
        refine m_iald C hW hk19 hb20 dX11_homes_113 ?_
        refine lv_iconst C.1 C.2.1 dX11_homes_114 ic_m1 ?_
        refine lv_icmp_ne (tgt := 129) C.1 C.2.1 dX11_homes_115 rfl (fun c21 => ?_) (fun c21 => ?_)
        · have hf := (if_neg c21).symm.trans hf
          exact kX11_homes_129 ih C x0 x1 x2 x3 _ _ _ _ hx0 hW (lv_sub hl [0, 1, 2, 3] rfl) hf
        · have hf := (if_pos c21).symm.trans hf
          refine lv_iload_n C.1 C.2.1 dX11_homes_118 rfl (lv_at hl 2 rfl) ?_
          refine lv_aload_n C.1 C.2.1 dX11_homes_119 rfl (lv_at hl 0 rfl) ?_
          refine m_getr C hW hx0 flX11_141 (by decide) dX11_homes_120 (fun hk22 => ?_)
          refine lv_iload_n C.1 C.2.1 dX11_homes_123 rfl (lv_at hl 3 rfl) ?_
          obtain ⟨hb23, hf⟩ := gd hf
          refine m_iald C hW hk22 hb23 dX11_homes_124 ?_
          refine va_mmax C.1 C.2.1 (C.2.2.1.trans hl.1.symm) C.2.2.2.1 (C.2.2.2.2.1 _ kw_2013) (C.2.2.2.2.1 _ kw_953) (C.2.2.2.2.1 _ kw_135) (C.2.2.2.2.1 _ kw_954) (Nat.le_of_ble_eq_true rfl) (Nat.le_of_ble_eq_true rfl) (Nat.le_refl 0) (Nat.le_refl 0) dX11_homes_125 ?_
          refine lv_istore_n (lv' := [(2, .int (if x2 < (gI S (gR S x0 68) x3.toNatClampNeg) then (gI S (gR S x0 68) x3.toNatClampNeg) else x2)), (0, .ref (ad L x0)), (1, .int x1), (3, .int x3)]) C.1 C.2.1 dX11_homes_128 rfl hl (by decide) rfl (fun ls hl => ?_)
          exact kX11_homes_129 ih C x0 x1 (if x2 < (gI S (gR S x0 68) x3.toNatClampNeg) then (gI S (gR S x0 68) x3.toNatClampNeg) else x2) x3 _ _ _ _ hx0 hW (lv_sub hl [1, 2, 0, 3] rfl) hf

set_option maxRecDepth 100000 in
theorem kX11_homes_83 {p : Program} {l : Launch} {e : Env} {s : State} {m : MethodId} {av : Array Value} {below : List Frame} {meth : Method} {c : Code} {A : Nat → Prop} {G : Gv} {L : List Nat} {q : (Int32 × MS)} {K48 : Nat → Int32 → Int32 → Int32 → MS → Option (Int32 × MS)} (hK48 : ∀ (x0 : Nat) (x1 : Int32) (x2 : Int32) (x3 : Int32) (S : MS) (H : Heap) (locs : List Loc) (ls : Array Slot), (x0 < shM.1 ∧ shM.2.1 x0 = 11) → mW G shM L S A s H locs → lv_has ls 8 [(0, .ref (ad L x0)), (1, .int x1), (2, .int x2), (3, .int x3)] → K48 x0 x1 x2 x3 S = some q → W p l e (rmd (9)) s m av below meth c H locs 0 0 (MQ below (mQ G shM L q.2 (some (.int q.1)) A) av s 0 0 A) (F0 m 48 ls [])) (C : mC p s m av meth c cX11_homes RX11 8 (some .int)) : ∀ (x0 : Nat) (x1 : Int32) (x2 : Int32) (x3 : Int32) (S : MS) (H : Heap) (locs : List Loc) (ls : Array Slot), (x0 < shM.1 ∧ shM.2.1 x0 = 11) → mW G shM L S A s H locs → lv_has ls 8 [(0, .ref (ad L x0)), (1, .int x1), (2, .int x2), (3, .int x3)] → fX11_homes_83 K48 x0 x1 x2 x3 S = some q → W p l e (rmd (9)) s m av below meth c H locs 0 0 (MQ below (mQ G shM L q.2 (some (.int q.1)) A) av s 0 0 A) (F0 m 83 ls []) := by
  intro x0 x1 x2 x3 S H locs ls hx0 hW hl hf
  unfold fX11_homes_83 at hf
  refine lv_iinc (v := x3 + (-1 : Int32)) (lv' := [(3, .int (x3 + (-1 : Int32))), (0, .ref (ad L x0)), (1, .int x1), (2, .int x2)]) C.1 C.2.1 dX11_homes_83 hl (k := 3) rfl (congrArg (fun z => x3 + z) ic_m1) (by decide) rfl (fun ls hl => ?_)
  refine lv_goto (tgt := 48) C.1 C.2.1 dX11_homes_86 rfl ?_
  exact hK48 x0 x1 x2 (x3 + (-1 : Int32)) _ _ _ _ hx0 hW (lv_sub hl [1, 2, 3, 0] rfl) hf

set_option maxRecDepth 100000 in
theorem kX11_homes_48 {p : Program} {l : Launch} {e : Env} {s : State} {m : MethodId} {av : Array Value} {below : List Frame} {meth : Method} {c : Code} {A : Nat → Prop} {G : Gv} {L : List Nat} {q : (Int32 × MS)}  (C : mC p s m av meth c cX11_homes RX11 8 (some .int)) : ∀ (n : Nat) (x0 : Nat) (x1 : Int32) (x2 : Int32) (x3 : Int32) (S : MS) (H : Heap) (locs : List Loc) (ls : Array Slot), (x0 < shM.1 ∧ shM.2.1 x0 = 11) → mW G shM L S A s H locs → lv_has ls 8 [(0, .ref (ad L x0)), (1, .int x1), (2, .int x2), (3, .int x3)] → fX11_homes_48  n x0 x1 x2 x3 S = some q → W p l e (rmd (9)) s m av below meth c H locs 0 0 (MQ below (mQ G shM L q.2 (some (.int q.1)) A) av s 0 0 A) (F0 m 48 ls []) := by
  intro n
  induction n with
  | zero =>
    intro x0 x1 x2 x3 S H locs ls hx0 hW hl hf
    rw [fX11_homes_48] at hf
    cases hf
  | succ n ih =>
    intro x0 x1 x2 x3 S H locs ls hx0 hW hl hf
    rw [fX11_homes_48] at hf
    refine lv_iload_n C.1 C.2.1 dX11_homes_48 rfl (lv_at hl 3 rfl) ?_
    refine lv_if_lt (tgt := 89) C.1 C.2.1 dX11_homes_49 rfl (fun c24 => ?_) (fun c24 => ?_)
    · have hf := (if_pos c24).symm.trans hf
      refine lv_iconst C.1 C.2.1 dX11_homes_89 ic_0 ?_
      refine lv_istore_n (lv' := [(3, .int (0 : Int32)), (0, .ref (ad L x0)), (1, .int x1), (2, .int x2)]) C.1 C.2.1 dX11_homes_90 rfl hl (by decide) rfl (fun ls hl => ?_)
      exact kX11_homes_91  C 1000 x0 x1 x2 (0 : Int32) _ _ _ _ hx0 hW (lv_sub hl [1, 2, 3, 0] rfl) hf
    · have hf := (if_neg c24).symm.trans hf
      refine lv_aload_n C.1 C.2.1 dX11_homes_52 rfl (lv_at hl 0 rfl) ?_
      refine m_getr C hW hx0 flX11_157 (by decide) dX11_homes_53 (fun hk25 => ?_)
      refine lv_iload_n C.1 C.2.1 dX11_homes_56 rfl (lv_at hl 3 rfl) ?_
      obtain ⟨hb26, hf⟩ := gd hf
      refine m_zald C hW hk25 hb26 dX11_homes_57 ?_
      refine lv_if_ne (tgt := 83) C.1 C.2.1 dX11_homes_58 rfl (fun c27 => ?_) (fun c27 => ?_)
      · have hf := (if_neg c27).symm.trans hf
        exact kX11_homes_83 ih C x0 x1 x2 x3 _ _ _ _ hx0 hW (lv_sub hl [0, 1, 2, 3] rfl) hf
      · have hf := (if_pos c27).symm.trans hf
        refine lv_aload_n C.1 C.2.1 dX11_homes_61 rfl (lv_at hl 0 rfl) ?_
        refine m_getr C hW hx0 flX11_154 (by decide) dX11_homes_62 (fun hk28 => ?_)
        refine lv_iload_n C.1 C.2.1 dX11_homes_65 rfl (lv_at hl 3 rfl) ?_
        obtain ⟨hb29, hf⟩ := gd hf
        refine m_iald C hW hk28 hb29 dX11_homes_66 ?_
        refine lv_iconst C.1 C.2.1 dX11_homes_67 ic_m1 ?_
        refine lv_icmp_eq (tgt := 83) C.1 C.2.1 dX11_homes_68 rfl (fun c30 => ?_) (fun c30 => ?_)
        · have hf := (if_pos c30).symm.trans hf
          exact kX11_homes_83 ih C x0 x1 x2 x3 _ _ _ _ hx0 hW (lv_sub hl [0, 1, 2, 3] rfl) hf
        · have hf := (if_neg c30).symm.trans hf
          refine lv_aload_n C.1 C.2.1 dX11_homes_71 rfl (lv_at hl 0 rfl) ?_
          refine m_getr C hW hx0 flX11_157 (by decide) dX11_homes_72 (fun hk31 => ?_)
          refine lv_aload_n C.1 C.2.1 dX11_homes_75 rfl (lv_at hl 0 rfl) ?_
          refine m_getr C hW hx0 flX11_154 (by decide) dX11_homes_76 (fun hk32 => ?_)
          refine lv_iload_n C.1 C.2.1 dX11_homes_79 rfl (lv_at hl 3 rfl) ?_
          obtain ⟨hb33, hf⟩ := gd hf
          refine m_iald C hW hk32 hb33 dX11_homes_80 ?_
          refine lv_iconst C.1 C.2.1 dX11_homes_81 ic_1 ?_
          obtain ⟨hb34, hf⟩ := gd hf
          refine m_zast C hW hk31 hb34 dX11_homes_82 (fun H locs hW => ?_)
          exact kX11_homes_83 ih C x0 x1 x2 x3 _ _ _ _ hx0 hW (lv_sub hl [0, 1, 2, 3] rfl) hf

set_option maxRecDepth 100000 in
theorem kX11_homes_20 {p : Program} {l : Launch} {e : Env} {s : State} {m : MethodId} {av : Array Value} {below : List Frame} {meth : Method} {c : Code} {A : Nat → Prop} {G : Gv} {L : List Nat} {q : (Int32 × MS)}  (C : mC p s m av meth c cX11_homes RX11 8 (some .int)) : ∀ (n : Nat) (x0 : Nat) (x1 : Int32) (x2 : Int32) (x3 : Int32) (S : MS) (H : Heap) (locs : List Loc) (ls : Array Slot), (x0 < shM.1 ∧ shM.2.1 x0 = 11) → mW G shM L S A s H locs → lv_has ls 8 [(0, .ref (ad L x0)), (1, .int x1), (2, .int x2), (3, .int x3)] → fX11_homes_20  n x0 x1 x2 x3 S = some q → W p l e (rmd (9)) s m av below meth c H locs 0 0 (MQ below (mQ G shM L q.2 (some (.int q.1)) A) av s 0 0 A) (F0 m 20 ls []) := by
  intro n
  induction n with
  | zero =>
    intro x0 x1 x2 x3 S H locs ls hx0 hW hl hf
    rw [fX11_homes_20] at hf
    cases hf
  | succ n ih =>
    intro x0 x1 x2 x3 S H locs ls hx0 hW hl hf
    rw [fX11_homes_20] at hf
    refine lv_iload_n C.1 C.2.1 dX11_homes_20 rfl (lv_at hl 3 rfl) ?_
    refine lv_aload_n C.1 C.2.1 dX11_homes_21 rfl (lv_at hl 0 rfl) ?_
    obtain ⟨q35, h36, hf⟩ := bd hf
    refine m_callV (As := []) (rest := [.int x3]) C hW hx0 (cX11_knownMany_ok  hx0 h36) mlX11_529 (by decide) rfl hl.1 rfl (Nat.le_of_ble_eq_true rfl) (Nat.le_of_ble_eq_true rfl) (Nat.le_of_ble_eq_true rfl) dX11_homes_22 (fun H locs hW => ?_)
    refine lv_icmp_ge (tgt := 41) C.1 C.2.1 dX11_homes_25 rfl (fun c37 => ?_) (fun c37 => ?_)
    · have hf := (if_pos c37).symm.trans hf
      refine lv_aload_n C.1 C.2.1 dX11_homes_41 rfl (lv_at hl 0 rfl) ?_
      obtain ⟨q38, h39, hf⟩ := bd hf
      refine m_callV (As := []) (rest := []) C hW hx0 (cX11_knownMany_ok  hx0 h39) mlX11_529 (by decide) rfl hl.1 rfl (Nat.le_of_ble_eq_true rfl) (Nat.le_of_ble_eq_true rfl) (Nat.le_of_ble_eq_true rfl) dX11_homes_42 (fun H locs hW => ?_)
      refine lv_iconst C.1 C.2.1 dX11_homes_45 ic_1 ?_
      refine lv_isub C.1 C.2.1 dX11_homes_46 ?_
      refine lv_istore_n (lv' := [(3, .int (q38 - (1 : Int32))), (0, .ref (ad L x0)), (1, .int x1), (2, .int x2)]) C.1 C.2.1 dX11_homes_47 rfl hl (by decide) rfl (fun ls hl => ?_)
      exact kX11_homes_48  C 1000 x0 x1 x2 (q38 - (1 : Int32)) _ _ _ _ hx0 hW (lv_sub hl [1, 2, 3, 0] rfl) hf
    · have hf := (if_neg c37).symm.trans hf
      refine lv_aload_n C.1 C.2.1 dX11_homes_28 rfl (lv_at hl 0 rfl) ?_
      refine m_getr C hW hx0 flX11_157 (by decide) dX11_homes_29 (fun hk40 => ?_)
      refine lv_iload_n C.1 C.2.1 dX11_homes_32 rfl (lv_at hl 3 rfl) ?_
      refine lv_iconst C.1 C.2.1 dX11_homes_33 ic_0 ?_
      obtain ⟨hb41, hf⟩ := gd hf
      refine m_zast C hW hk40 hb41 dX11_homes_34 (fun H locs hW => ?_)
      refine lv_iinc (v := x3 + (1 : Int32)) (lv' := [(3, .int (x3 + (1 : Int32))), (0, .ref (ad L x0)), (1, .int x1), (2, .int x2)]) C.1 C.2.1 dX11_homes_35 hl (k := 3) rfl (congrArg (fun z => x3 + z) ic_1) (by decide) rfl (fun ls hl => ?_)
      refine lv_goto (tgt := 20) C.1 C.2.1 dX11_homes_38 rfl ?_
      exact ih x0 x1 x2 (x3 + (1 : Int32)) _ _ _ _ hx0 hW (lv_sub hl [1, 2, 3, 0] rfl) hf

set_option maxRecDepth 100000 in
theorem cX11_homes_ok {l : Launch} {G : Gv} {L : List Nat} {S : MS} {a0 : Nat} {a1 : Int32} {q : (Int32 × MS)} (ha0 : a0 < shM.1 ∧ shM.2.1 a0 = 11) (hf : fX11_homes a0 a1 S = some q) : Mt l yX11_homes cX11_homes 8 (some .int) (9) G shM L S [.ref (ad L a0), .int a1] (some (.int q.1)) q.2 := by
  refine m_enter (lv := [(0, .ref (ad L a0)), (1, .int a1)]) (plainFor_of_name (by decide)) (Nat.le_of_ble_eq_true rfl) rfl ?_
  intro p e s m below meth c A ls C hW hl
  unfold fX11_homes at hf
  refine lv_aload_n C.1 C.2.1 dX11_homes_0 rfl (lv_at hl 0 rfl) ?_
  refine lv_iconst C.1 C.2.1 dX11_homes_1 ic_0 ?_
  refine m_puti C hW ha0 fpX11_163 dX11_homes_2 (fun H locs hW => ?_)
  refine lv_iload_n C.1 C.2.1 dX11_homes_5 rfl (lv_at hl 1 rfl) ?_
  refine lv_if_lt (tgt := 14) C.1 C.2.1 dX11_homes_6 rfl (fun c42 => ?_) (fun c42 => ?_)
  · have hf := (if_pos c42).symm.trans hf
    refine lv_iconst C.1 C.2.1 dX11_homes_14 ic_m1 ?_
    cases hf
    exact m_iret C hW dX11_homes_15
  · have hf := (if_neg c42).symm.trans hf
    refine lv_iload_n C.1 C.2.1 dX11_homes_9 rfl (lv_at hl 1 rfl) ?_
    refine lv_iconst C.1 C.2.1 dX11_homes_10 ic_1 ?_
    refine lv_icmp_le (tgt := 16) C.1 C.2.1 dX11_homes_11 rfl (fun c43 => ?_) (fun c43 => ?_)
    · have hf := (if_pos c43).symm.trans hf
      refine lv_iconst C.1 C.2.1 dX11_homes_16 ic_0 ?_
      refine lv_istore_n (lv' := [(2, .int (0 : Int32)), (0, .ref (ad L a0)), (1, .int a1)]) C.1 C.2.1 dX11_homes_17 rfl hl (by decide) rfl (fun ls hl => ?_)
      refine lv_iconst C.1 C.2.1 dX11_homes_18 ic_0 ?_
      refine lv_istore_n (lv' := [(3, .int (0 : Int32)), (2, .int (0 : Int32)), (0, .ref (ad L a0)), (1, .int a1)]) C.1 C.2.1 dX11_homes_19 rfl hl (by decide) rfl (fun ls hl => ?_)
      exact kX11_homes_20  C 1000 a0 a1 (0 : Int32) (0 : Int32) _ _ _ _ ha0 hW (lv_sub hl [2, 3, 1, 0] rfl) hf
    · have hf := (if_neg c43).symm.trans hf
      refine lv_iconst C.1 C.2.1 dX11_homes_14 ic_m1 ?_
      cases hf
      exact m_iret C hW dX11_homes_15

def fX11_tried_92  (x0 : Nat) (x1 : Int32) (x3 : Int32) (S : MS) : Option (Int32 × MS) := (fX11_goesOn  x0 x3 (pI S x0 57 x1)).bind fun q1 => (fX11_worthOf  x0 (1 : Int32) (pI q1 x0 57 (0 : Int32))).bind fun q3 => (fX11_worthOf  x0 (0 : Int32) (pI q1 x0 57 (0 : Int32))).bind fun q5 => some (q3 - q5, pI q1 x0 57 (0 : Int32))
def fX11_tried_80  (x0 : Nat) (x1 : Int32) (x3 : Int32) (S : MS) : Option (Int32 × MS) := (if x1 = (4 : Int32) then (if bnd (1 : Int32) (lnM (gR S x0 48)) = true then fX11_tried_92  x0 x1 x3 (pI S (gR S x0 48) ((1 : Int32).toNatClampNeg) (0 : Int32)) else none) else fX11_tried_92  x0 x1 x3 S)
def fX11_tried_36  (x0 : Nat) (x1 : Int32) (x2 : Int32) (x3 : Int32) (y0 : Int32) (S : MS) : Option (Int32 × MS) := (if y0 = (0 : Int32) then some ((-1 : Int32), S) else (if x3 < (0 : Int32) then some ((-1 : Int32), S) else (if x3 ≤ (99 : Int32) then (fX11_copies  x0 (1 : Int32) (0 : Int32) S).bind fun q13 => (if x1 = (2 : Int32) then (if bnd (1 : Int32) (lnM (gR q13 x0 50)) = true then (if bnd (1 : Int32) (lnM (gR q13 x0 50)) = true then fX11_tried_80  x0 x1 x3 (pI q13 (gR q13 x0 50) ((1 : Int32).toNatClampNeg) ((gI q13 (gR q13 x0 50) (1 : Int32).toNatClampNeg) &&& (((1 : Int32) <<< (x2 &&& 31)) ^^^ (-1 : Int32)))) else none) else none) else fX11_tried_80  x0 x1 x3 q13) else some ((-1 : Int32), S))))
def fX11_tried_35  (x0 : Nat) (x1 : Int32) (x2 : Int32) (x3 : Int32) (S : MS) : Option (Int32 × MS) := fX11_tried_36  x0 x1 x2 x3 (0 : Int32) S
def fX11_tried (a0 : Nat) (a1 : Int32) (a2 : Int32) (a3 : Int32) (S : MS) : Option (Int32 × MS) := (if a1 = (2 : Int32) then (fX11_isLamp  a0 a2 (pI S a0 0 (0 : Int32))).bind fun q23 => fX11_tried_36  a0 a1 a2 a3 q23 (pI S a0 0 (0 : Int32)) else (if a1 < (0 : Int32) then fX11_tried_35  a0 a1 a2 a3 (pI S a0 0 (0 : Int32)) else (if (5 : Int32) < a1 then fX11_tried_35  a0 a1 a2 a3 (pI S a0 0 (0 : Int32)) else (if a2 = (0 : Int32) then fX11_tried_36  a0 a1 a2 a3 (1 : Int32) (pI S a0 0 (0 : Int32)) else fX11_tried_35  a0 a1 a2 a3 (pI S a0 0 (0 : Int32))))))
set_option maxRecDepth 100000 in
theorem kX11_tried_92 {p : Program} {l : Launch} {e : Env} {s : State} {m : MethodId} {av : Array Value} {below : List Frame} {meth : Method} {c : Code} {A : Nat → Prop} {G : Gv} {L : List Nat} {q : (Int32 × MS)}  (C : mC p s m av meth c cX11_tried RX11 5 (some .int)) : ∀ (x0 : Nat) (x1 : Int32) (x3 : Int32) (S : MS) (H : Heap) (locs : List Loc) (ls : Array Slot), (x0 < shM.1 ∧ shM.2.1 x0 = 11) → mW G shM L S A s H locs → lv_has ls 5 [(0, .ref (ad L x0)), (1, .int x1), (3, .int x3)] → fX11_tried_92  x0 x1 x3 S = some q → W p l e (rmd (9)) s m av below meth c H locs 0 0 (MQ below (mQ G shM L q.2 (some (.int q.1)) A) av s 0 0 A) (F0 m 92 ls []) := by
  intro x0 x1 x3 S H locs ls hx0 hW hl hf
  unfold fX11_tried_92 at hf
  refine lv_aload_n C.1 C.2.1 dX11_tried_92 rfl (lv_at hl 0 rfl) ?_
  refine lv_iload_n C.1 C.2.1 dX11_tried_93 rfl (lv_at hl 1 rfl) ?_
  refine m_puti C hW hx0 fpX11_409 dX11_tried_94 (fun H locs hW => ?_)
  refine lv_aload_n C.1 C.2.1 dX11_tried_97 rfl (lv_at hl 0 rfl) ?_
  refine lv_iload_n C.1 C.2.1 dX11_tried_98 rfl (lv_at hl 2 rfl) ?_
  obtain ⟨q1, h2, hf⟩ := bd hf
  refine m_callV (As := [.int x3]) (rest := []) C hW hx0 (cX11_goesOn_ok  hx0 h2) mlX11_494 (by decide) rfl hl.1 rfl (Nat.le_of_ble_eq_true rfl) (Nat.le_of_ble_eq_true rfl) (Nat.le_of_ble_eq_true rfl) dX11_tried_99 (fun H locs hW => ?_)
  refine lv_aload_n C.1 C.2.1 dX11_tried_102 rfl (lv_at hl 0 rfl) ?_
  refine lv_iconst C.1 C.2.1 dX11_tried_103 ic_0 ?_
  refine m_puti C hW hx0 fpX11_409 dX11_tried_104 (fun H locs hW => ?_)
  refine lv_aload_n C.1 C.2.1 dX11_tried_107 rfl (lv_at hl 0 rfl) ?_
  refine lv_iconst C.1 C.2.1 dX11_tried_108 ic_1 ?_
  obtain ⟨q3, h4, hf⟩ := bd hf
  refine m_callV (As := [.int (1 : Int32)]) (rest := []) C hW hx0 (cX11_worthOf_ok  hx0 h4) mlX11_497 (by decide) rfl hl.1 rfl (Nat.le_of_ble_eq_true rfl) (Nat.le_of_ble_eq_true rfl) (Nat.le_of_ble_eq_true rfl) dX11_tried_109 (fun H locs hW => ?_)
  refine lv_aload_n C.1 C.2.1 dX11_tried_112 rfl (lv_at hl 0 rfl) ?_
  refine lv_iconst C.1 C.2.1 dX11_tried_113 ic_0 ?_
  obtain ⟨q5, h6, hf⟩ := bd hf
  refine m_callV (As := [.int (0 : Int32)]) (rest := [.int q3]) C hW hx0 (cX11_worthOf_ok  hx0 h6) mlX11_497 (by decide) rfl hl.1 rfl (Nat.le_of_ble_eq_true rfl) (Nat.le_of_ble_eq_true rfl) (Nat.le_of_ble_eq_true rfl) dX11_tried_114 (fun H locs hW => ?_)
  refine lv_isub C.1 C.2.1 dX11_tried_117 ?_
  cases hf
  exact m_iret C hW dX11_tried_118

set_option maxRecDepth 100000 in
theorem kX11_tried_80 {p : Program} {l : Launch} {e : Env} {s : State} {m : MethodId} {av : Array Value} {below : List Frame} {meth : Method} {c : Code} {A : Nat → Prop} {G : Gv} {L : List Nat} {q : (Int32 × MS)}  (C : mC p s m av meth c cX11_tried RX11 5 (some .int)) : ∀ (x0 : Nat) (x1 : Int32) (x3 : Int32) (S : MS) (H : Heap) (locs : List Loc) (ls : Array Slot), (x0 < shM.1 ∧ shM.2.1 x0 = 11) → mW G shM L S A s H locs → lv_has ls 5 [(0, .ref (ad L x0)), (1, .int x1), (3, .int x3)] → fX11_tried_80  x0 x1 x3 S = some q → W p l e (rmd (9)) s m av below meth c H locs 0 0 (MQ below (mQ G shM L q.2 (some (.int q.1)) A) av s 0 0 A) (F0 m 80 ls []) := by
  intro x0 x1 x3 S H locs ls hx0 hW hl hf
  unfold fX11_tried_80 at hf
  refine lv_iload_n C.1 C.2.1 dX11_tried_80 rfl (lv_at hl 1 rfl) ?_
  refine lv_iconst C.1 C.2.1 dX11_tried_81 ic_4 ?_
  refine lv_icmp_ne (tgt := 92) C.1 C.2.1 dX11_tried_82 rfl (fun c7 => ?_) (fun c7 => ?_)
  · have hf := (if_neg c7).symm.trans hf
    exact kX11_tried_92  C x0 x1 x3 _ _ _ _ hx0 hW (lv_sub hl [0, 1, 2] rfl) hf
  · have hf := (if_pos c7).symm.trans hf
    refine lv_aload_n C.1 C.2.1 dX11_tried_85 rfl (lv_at hl 0 rfl) ?_
    refine m_getr C hW hx0 flX11_108 (by decide) dX11_tried_86 (fun hk8 => ?_)
    refine lv_iconst C.1 C.2.1 dX11_tried_89 ic_1 ?_
    refine lv_iconst C.1 C.2.1 dX11_tried_90 ic_0 ?_
    obtain ⟨hb9, hf⟩ := gd hf
    refine m_iast C hW hk8 hb9 dX11_tried_91 (fun H locs hW => ?_)
    exact kX11_tried_92  C x0 x1 x3 _ _ _ _ hx0 hW (lv_sub hl [0, 1, 2] rfl) hf

set_option maxRecDepth 100000 in
theorem kX11_tried_36 {p : Program} {l : Launch} {e : Env} {s : State} {m : MethodId} {av : Array Value} {below : List Frame} {meth : Method} {c : Code} {A : Nat → Prop} {G : Gv} {L : List Nat} {q : (Int32 × MS)}  (C : mC p s m av meth c cX11_tried RX11 5 (some .int)) : ∀ (x0 : Nat) (x1 : Int32) (x2 : Int32) (x3 : Int32) (y0 : Int32) (S : MS) (H : Heap) (locs : List Loc) (ls : Array Slot), (x0 < shM.1 ∧ shM.2.1 x0 = 11) → mW G shM L S A s H locs → lv_has ls 5 [(0, .ref (ad L x0)), (1, .int x1), (2, .int x2), (3, .int x3)] → fX11_tried_36  x0 x1 x2 x3 y0 S = some q → W p l e (rmd (9)) s m av below meth c H locs 0 0 (MQ below (mQ G shM L q.2 (some (.int q.1)) A) av s 0 0 A) (F0 m 36 ls [.int y0]) := by
  intro x0 x1 x2 x3 y0 S H locs ls hx0 hW hl hf
  unfold fX11_tried_36 at hf
  refine lv_istore (lv' := [(4, .int y0), (0, .ref (ad L x0)), (1, .int x1), (2, .int x2), (3, .int x3)]) C.1 C.2.1 dX11_tried_36 hl (by decide) rfl (fun ls hl => ?_)
  refine lv_iload C.1 C.2.1 dX11_tried_38 (lv_at hl 0 rfl) ?_
  refine lv_if_eq (tgt := 53) C.1 C.2.1 dX11_tried_40 rfl (fun c10 => ?_) (fun c10 => ?_)
  · have hf := (if_pos c10).symm.trans hf
    refine lv_iconst C.1 C.2.1 dX11_tried_53 ic_m1 ?_
    cases hf
    exact m_iret C hW dX11_tried_54
  · have hf := (if_neg c10).symm.trans hf
    refine lv_iload_n C.1 C.2.1 dX11_tried_43 rfl (lv_at hl 4 rfl) ?_
    refine lv_if_lt (tgt := 53) C.1 C.2.1 dX11_tried_44 rfl (fun c11 => ?_) (fun c11 => ?_)
    · have hf := (if_pos c11).symm.trans hf
      refine lv_iconst C.1 C.2.1 dX11_tried_53 ic_m1 ?_
      cases hf
      exact m_iret C hW dX11_tried_54
    · have hf := (if_neg c11).symm.trans hf
      refine lv_iload_n C.1 C.2.1 dX11_tried_47 rfl (lv_at hl 4 rfl) ?_
      refine lv_bipush C.1 C.2.1 dX11_tried_48 bp_99 ?_
      refine lv_icmp_le (tgt := 55) C.1 C.2.1 dX11_tried_50 rfl (fun c12 => ?_) (fun c12 => ?_)
      · have hf := (if_pos c12).symm.trans hf
        refine lv_aload_n C.1 C.2.1 dX11_tried_55 rfl (lv_at hl 1 rfl) ?_
        refine lv_iconst C.1 C.2.1 dX11_tried_56 ic_1 ?_
        refine lv_iconst C.1 C.2.1 dX11_tried_57 ic_0 ?_
        obtain ⟨q13, h14, hf⟩ := bd hf
        refine m_callV (As := [.int (1 : Int32), .int (0 : Int32)]) (rest := []) C hW hx0 (cX11_copies_ok  hx0 h14) mlX11_488 (by decide) rfl hl.1 rfl (Nat.le_of_ble_eq_true rfl) (Nat.le_of_ble_eq_true rfl) (Nat.le_of_ble_eq_true rfl) dX11_tried_58 (fun H locs hW => ?_)
        refine lv_iload_n C.1 C.2.1 dX11_tried_61 rfl (lv_at hl 2 rfl) ?_
        refine lv_iconst C.1 C.2.1 dX11_tried_62 ic_2 ?_
        refine lv_icmp_ne (tgt := 80) C.1 C.2.1 dX11_tried_63 rfl (fun c15 => ?_) (fun c15 => ?_)
        · have hf := (if_neg c15).symm.trans hf
          exact kX11_tried_80  C x0 x1 x3 _ _ _ _ hx0 hW (lv_sub hl [1, 2, 4] rfl) hf
        · have hf := (if_pos c15).symm.trans hf
          refine lv_aload_n C.1 C.2.1 dX11_tried_66 rfl (lv_at hl 1 rfl) ?_
          refine m_getr C hW hx0 flX11_114 (by decide) dX11_tried_67 (fun hk16 => ?_)
          refine lv_iconst C.1 C.2.1 dX11_tried_70 ic_1 ?_
          refine lv_dup2_11 C.1 C.2.1 dX11_tried_71 rfl rfl ?_
          obtain ⟨hb17, hf⟩ := gd hf
          refine m_iald C hW hk16 hb17 dX11_tried_72 ?_
          refine lv_iconst C.1 C.2.1 dX11_tried_73 ic_1 ?_
          refine lv_iload_n C.1 C.2.1 dX11_tried_74 rfl (lv_at hl 3 rfl) ?_
          refine lv_ishl C.1 C.2.1 dX11_tried_75 ?_
          refine lv_iconst C.1 C.2.1 dX11_tried_76 ic_m1 ?_
          refine lv_ixor C.1 C.2.1 dX11_tried_77 ?_
          refine lv_iand C.1 C.2.1 dX11_tried_78 ?_
          obtain ⟨hb18, hf⟩ := gd hf
          refine m_iast C hW hk16 hb18 dX11_tried_79 (fun H locs hW => ?_)
          exact kX11_tried_80  C x0 x1 x3 _ _ _ _ hx0 hW (lv_sub hl [1, 2, 4] rfl) hf
      · have hf := (if_neg c12).symm.trans hf
        refine lv_iconst C.1 C.2.1 dX11_tried_53 ic_m1 ?_
        cases hf
        exact m_iret C hW dX11_tried_54

set_option maxRecDepth 100000 in
theorem kX11_tried_35 {p : Program} {l : Launch} {e : Env} {s : State} {m : MethodId} {av : Array Value} {below : List Frame} {meth : Method} {c : Code} {A : Nat → Prop} {G : Gv} {L : List Nat} {q : (Int32 × MS)}  (C : mC p s m av meth c cX11_tried RX11 5 (some .int)) : ∀ (x0 : Nat) (x1 : Int32) (x2 : Int32) (x3 : Int32) (S : MS) (H : Heap) (locs : List Loc) (ls : Array Slot), (x0 < shM.1 ∧ shM.2.1 x0 = 11) → mW G shM L S A s H locs → lv_has ls 5 [(0, .ref (ad L x0)), (1, .int x1), (2, .int x2), (3, .int x3)] → fX11_tried_35  x0 x1 x2 x3 S = some q → W p l e (rmd (9)) s m av below meth c H locs 0 0 (MQ below (mQ G shM L q.2 (some (.int q.1)) A) av s 0 0 A) (F0 m 35 ls []) := by
  intro x0 x1 x2 x3 S H locs ls hx0 hW hl hf
  unfold fX11_tried_35 at hf
  refine lv_iconst C.1 C.2.1 dX11_tried_35 ic_0 ?_
  exact kX11_tried_36  C x0 x1 x2 x3 (0 : Int32) _ _ _ _ hx0 hW (lv_sub hl [0, 1, 2, 3] rfl) hf

set_option maxRecDepth 100000 in
theorem cX11_tried_ok {l : Launch} {G : Gv} {L : List Nat} {S : MS} {a0 : Nat} {a1 : Int32} {a2 : Int32} {a3 : Int32} {q : (Int32 × MS)} (ha0 : a0 < shM.1 ∧ shM.2.1 a0 = 11) (hf : fX11_tried a0 a1 a2 a3 S = some q) : Mt l yX11_tried cX11_tried 5 (some .int) (9) G shM L S [.ref (ad L a0), .int a1, .int a2, .int a3] (some (.int q.1)) q.2 := by
  refine m_enter (lv := [(0, .ref (ad L a0)), (1, .int a1), (2, .int a2), (3, .int a3)]) (plainFor_of_name (by decide)) (Nat.le_of_ble_eq_true rfl) rfl ?_
  intro p e s m below meth c A ls C hW hl
  unfold fX11_tried at hf
  refine lv_aload_n C.1 C.2.1 dX11_tried_0 rfl (lv_at hl 0 rfl) ?_
  refine lv_iconst C.1 C.2.1 dX11_tried_1 ic_0 ?_
  refine m_puti C hW ha0 fpX11_163 dX11_tried_2 (fun H locs hW => ?_)
  refine lv_iload_n C.1 C.2.1 dX11_tried_5 rfl (lv_at hl 1 rfl) ?_
  refine lv_iconst C.1 C.2.1 dX11_tried_6 ic_2 ?_
  refine lv_icmp_ne (tgt := 18) C.1 C.2.1 dX11_tried_7 rfl (fun c19 => ?_) (fun c19 => ?_)
  · have hf := (if_neg c19).symm.trans hf
    refine lv_iload_n C.1 C.2.1 dX11_tried_18 rfl (lv_at hl 1 rfl) ?_
    refine lv_if_lt (tgt := 35) C.1 C.2.1 dX11_tried_19 rfl (fun c20 => ?_) (fun c20 => ?_)
    · have hf := (if_pos c20).symm.trans hf
      exact kX11_tried_35  C a0 a1 a2 a3 _ _ _ _ ha0 hW (lv_sub hl [0, 1, 2, 3] rfl) hf
    · have hf := (if_neg c20).symm.trans hf
      refine lv_iload_n C.1 C.2.1 dX11_tried_22 rfl (lv_at hl 1 rfl) ?_
      refine lv_iconst C.1 C.2.1 dX11_tried_23 ic_5 ?_
      refine lv_icmp_gt (tgt := 35) C.1 C.2.1 dX11_tried_24 rfl (fun c21 => ?_) (fun c21 => ?_)
      · have hf := (if_pos c21).symm.trans hf
        exact kX11_tried_35  C a0 a1 a2 a3 _ _ _ _ ha0 hW (lv_sub hl [0, 1, 2, 3] rfl) hf
      · have hf := (if_neg c21).symm.trans hf
        refine lv_iload_n C.1 C.2.1 dX11_tried_27 rfl (lv_at hl 2 rfl) ?_
        refine lv_if_ne (tgt := 35) C.1 C.2.1 dX11_tried_28 rfl (fun c22 => ?_) (fun c22 => ?_)
        · have hf := (if_neg c22).symm.trans hf
          exact kX11_tried_35  C a0 a1 a2 a3 _ _ _ _ ha0 hW (lv_sub hl [0, 1, 2, 3] rfl) hf
        · have hf := (if_pos c22).symm.trans hf
          refine lv_iconst C.1 C.2.1 dX11_tried_31 ic_1 ?_
          refine lv_goto (tgt := 36) C.1 C.2.1 dX11_tried_32 rfl ?_
          exact kX11_tried_36  C a0 a1 a2 a3 (1 : Int32) _ _ _ _ ha0 hW (lv_sub hl [0, 1, 2, 3] rfl) hf
  · have hf := (if_pos c19).symm.trans hf
    refine lv_aload_n C.1 C.2.1 dX11_tried_10 rfl (lv_at hl 0 rfl) ?_
    refine lv_iload_n C.1 C.2.1 dX11_tried_11 rfl (lv_at hl 2 rfl) ?_
    obtain ⟨q23, h24, hf⟩ := bd hf
    refine m_callV (As := [.int a2]) (rest := []) C hW ha0 (cX11_isLamp_ok  ha0 h24) mlX11_481 (by decide) rfl hl.1 rfl (Nat.le_of_ble_eq_true rfl) (Nat.le_of_ble_eq_true rfl) (Nat.le_of_ble_eq_true rfl) dX11_tried_12 (fun H locs hW => ?_)
    refine lv_goto (tgt := 36) C.1 C.2.1 dX11_tried_15 rfl ?_
    exact kX11_tried_36  C a0 a1 a2 a3 q23 _ _ _ _ ha0 hW (lv_sub hl [0, 1, 2, 3] rfl) hf

def fX11_wallLine_93  (x0 : Nat) (x1 : Int32) (S : MS) : Option MS := (fX11_fresher  x0 (4 : Int32) S).bind fun q2 => (fX11_columnToken  x0 S).bind fun q4 => (if bnd ((8 : Int32) + q2) (lnM (gR S x0 4)) = true then (fX11_fresher  x0 (4 : Int32) (pI q4.2 (gR S x0 4) (((8 : Int32) + q2).toNatClampNeg) (((8 : Int32) * x1) + q4.1))).bind fun q7 => (fX11_reads  x0 (4 : Int32) (q7 + (1 : Int32)) (pI q4.2 (gR S x0 4) (((8 : Int32) + q2).toNatClampNeg) (((8 : Int32) * x1) + q4.1))).bind fun q9 => some q9 else none)
def fX11_wallLine_61  (x0 : Nat) (x1 : Int32) (S : MS) : Option MS := (fX11_fresher  x0 (4 : Int32) S).bind fun q12 => (fX11_found  (gR S x0 4) (8 : Int32) q12 (((8 : Int32) * x1) + (gI S x0 33)) S).bind fun q14 => (if q14 = (-1 : Int32) then fX11_wallLine_93  x0 x1 S else (fX11_wrong  x0 (5 : Int32) S).bind fun q17 => fX11_wallLine_93  x0 x1 q17)
def fX11_wallLine (a0 : Nat) (S : MS) : Option MS := (fX11_rowToken  a0 S).bind fun q19 => (if gI q19.2 a0 34 = (0 : Int32) then (if gI q19.2 a0 32 = (2 : Int32) then (fX11_fresher  a0 (1 : Int32) q19.2).bind fun q23 => (if q23 ≤ (gI q19.2 a0 33) then fX11_wallLine_93  a0 q19.1 q19.2 else (fX11_fresher  a0 (2 : Int32) q19.2).bind fun q26 => (if q19.1 = q26 then (fX11_fresher  a0 (3 : Int32) q19.2).bind fun q29 => (if gI q19.2 a0 33 = q29 then (fX11_wrong  a0 (5 : Int32) q19.2).bind fun q32 => fX11_wallLine_93  a0 q19.1 q32 else fX11_wallLine_61  a0 q19.1 q19.2) else fX11_wallLine_61  a0 q19.1 q19.2)) else fX11_wallLine_93  a0 q19.1 q19.2) else fX11_wallLine_93  a0 q19.1 q19.2)
set_option maxRecDepth 100000 in
theorem kX11_wallLine_93 {p : Program} {l : Launch} {e : Env} {s : State} {m : MethodId} {av : Array Value} {below : List Frame} {meth : Method} {c : Code} {A : Nat → Prop} {G : Gv} {L : List Nat} {q : MS}  (C : mC p s m av meth c cX11_wallLine RX11 2 none) : ∀ (x0 : Nat) (x1 : Int32) (S : MS) (H : Heap) (locs : List Loc) (ls : Array Slot), (x0 < shM.1 ∧ shM.2.1 x0 = 11) → mW G shM L S A s H locs → lv_has ls 2 [(0, .ref (ad L x0)), (1, .int x1)] → fX11_wallLine_93  x0 x1 S = some q → W p l e (rmd (9)) s m av below meth c H locs 0 0 (MQ below (mQ G shM L q none A) av s 0 0 A) (F0 m 93 ls []) := by
  intro x0 x1 S H locs ls hx0 hW hl hf
  unfold fX11_wallLine_93 at hf
  refine lv_aload_n C.1 C.2.1 dX11_wallLine_93 rfl (lv_at hl 0 rfl) ?_
  refine m_getr C hW hx0 flX11_16 (by decide) dX11_wallLine_94 (fun hk1 => ?_)
  refine lv_bipush C.1 C.2.1 dX11_wallLine_97 bp_8 ?_
  refine lv_aload_n C.1 C.2.1 dX11_wallLine_99 rfl (lv_at hl 0 rfl) ?_
  refine lv_iconst C.1 C.2.1 dX11_wallLine_100 ic_4 ?_
  obtain ⟨q2, h3, hf⟩ := bd hf
  refine m_callV (As := [.int (4 : Int32)]) (rest := [.int (8 : Int32), .ref (ad L (gR S x0 4))]) C hW hx0 (cX11_fresher_ok  hx0 h3) mlX11_233 (by decide) rfl hl.1 rfl (Nat.le_of_ble_eq_true rfl) (Nat.le_of_ble_eq_true rfl) (Nat.le_of_ble_eq_true rfl) dX11_wallLine_101 (fun H locs hW => ?_)
  refine lv_iadd C.1 C.2.1 dX11_wallLine_104 ?_
  refine lv_bipush C.1 C.2.1 dX11_wallLine_105 bp_8 ?_
  refine lv_iload_n C.1 C.2.1 dX11_wallLine_107 rfl (lv_at hl 1 rfl) ?_
  refine lv_imul C.1 C.2.1 dX11_wallLine_108 ?_
  refine lv_aload_n C.1 C.2.1 dX11_wallLine_109 rfl (lv_at hl 0 rfl) ?_
  obtain ⟨q4, h5, hf⟩ := bd hf
  refine m_callV (As := []) (rest := [.int ((8 : Int32) * x1), .int ((8 : Int32) + q2), .ref (ad L (gR S x0 4))]) C hW hx0 (cX11_columnToken_ok  hx0 h5) mlX11_260 (by decide) rfl hl.1 rfl (Nat.le_of_ble_eq_true rfl) (Nat.le_of_ble_eq_true rfl) (Nat.le_of_ble_eq_true rfl) dX11_wallLine_110 (fun H locs hW => ?_)
  refine lv_iadd C.1 C.2.1 dX11_wallLine_113 ?_
  obtain ⟨hb6, hf⟩ := gd hf
  refine m_iast C hW hk1 hb6 dX11_wallLine_114 (fun H locs hW => ?_)
  refine lv_aload_n C.1 C.2.1 dX11_wallLine_115 rfl (lv_at hl 0 rfl) ?_
  refine lv_iconst C.1 C.2.1 dX11_wallLine_116 ic_4 ?_
  refine lv_aload_n C.1 C.2.1 dX11_wallLine_117 rfl (lv_at hl 0 rfl) ?_
  refine lv_iconst C.1 C.2.1 dX11_wallLine_118 ic_4 ?_
  obtain ⟨q7, h8, hf⟩ := bd hf
  refine m_callV (As := [.int (4 : Int32)]) (rest := [.int (4 : Int32), .ref (ad L x0)]) C hW hx0 (cX11_fresher_ok  hx0 h8) mlX11_233 (by decide) rfl hl.1 rfl (Nat.le_of_ble_eq_true rfl) (Nat.le_of_ble_eq_true rfl) (Nat.le_of_ble_eq_true rfl) dX11_wallLine_119 (fun H locs hW => ?_)
  refine lv_iconst C.1 C.2.1 dX11_wallLine_122 ic_1 ?_
  refine lv_iadd C.1 C.2.1 dX11_wallLine_123 ?_
  obtain ⟨q9, h10, hf⟩ := bd hf
  refine m_callV (As := [.int (4 : Int32), .int (q7 + (1 : Int32))]) (rest := []) C hW hx0 (cX11_reads_ok  hx0 h10) mlX11_253 (by decide) rfl hl.1 rfl (Nat.le_of_ble_eq_true rfl) (Nat.le_of_ble_eq_true rfl) (Nat.le_of_ble_eq_true rfl) dX11_wallLine_124 (fun H locs hW => ?_)
  cases hf
  exact m_vret C hW dX11_wallLine_127

set_option maxRecDepth 100000 in
theorem kX11_wallLine_61 {p : Program} {l : Launch} {e : Env} {s : State} {m : MethodId} {av : Array Value} {below : List Frame} {meth : Method} {c : Code} {A : Nat → Prop} {G : Gv} {L : List Nat} {q : MS}  (C : mC p s m av meth c cX11_wallLine RX11 2 none) : ∀ (x0 : Nat) (x1 : Int32) (S : MS) (H : Heap) (locs : List Loc) (ls : Array Slot), (x0 < shM.1 ∧ shM.2.1 x0 = 11) → mW G shM L S A s H locs → lv_has ls 2 [(0, .ref (ad L x0)), (1, .int x1)] → fX11_wallLine_61  x0 x1 S = some q → W p l e (rmd (9)) s m av below meth c H locs 0 0 (MQ below (mQ G shM L q none A) av s 0 0 A) (F0 m 61 ls []) := by
  intro x0 x1 S H locs ls hx0 hW hl hf
  unfold fX11_wallLine_61 at hf
  refine lv_aload_n C.1 C.2.1 dX11_wallLine_61 rfl (lv_at hl 0 rfl) ?_
  refine m_getr C hW hx0 flX11_16 (by decide) dX11_wallLine_62 (fun hk11 => ?_)
  refine lv_bipush C.1 C.2.1 dX11_wallLine_65 bp_8 ?_
  refine lv_aload_n C.1 C.2.1 dX11_wallLine_67 rfl (lv_at hl 0 rfl) ?_
  refine lv_iconst C.1 C.2.1 dX11_wallLine_68 ic_4 ?_
  obtain ⟨q12, h13, hf⟩ := bd hf
  refine m_callV (As := [.int (4 : Int32)]) (rest := [.int (8 : Int32), .ref (ad L (gR S x0 4))]) C hW hx0 (cX11_fresher_ok  hx0 h13) mlX11_233 (by decide) rfl hl.1 rfl (Nat.le_of_ble_eq_true rfl) (Nat.le_of_ble_eq_true rfl) (Nat.le_of_ble_eq_true rfl) dX11_wallLine_69 (fun H locs hW => ?_)
  refine lv_bipush C.1 C.2.1 dX11_wallLine_72 bp_8 ?_
  refine lv_iload_n C.1 C.2.1 dX11_wallLine_74 rfl (lv_at hl 1 rfl) ?_
  refine lv_imul C.1 C.2.1 dX11_wallLine_75 ?_
  refine lv_aload_n C.1 C.2.1 dX11_wallLine_76 rfl (lv_at hl 0 rfl) ?_
  refine m_geti C hW hx0 flX11_192 dX11_wallLine_77 ?_
  refine lv_iadd C.1 C.2.1 dX11_wallLine_80 ?_
  obtain ⟨q14, h15, hf⟩ := bd hf
  refine m_callS (As := [.ref (ad L (gR S x0 4)), .int (8 : Int32), .int q12, .int (((8 : Int32) * x1) + (gI S x0 33))]) (rest := []) C hW (cX11_found_ok  hk11 h15) mlX11_229 rfl hl.1 rfl (Nat.le_of_ble_eq_true rfl) (Nat.le_of_ble_eq_true rfl) (Nat.le_of_ble_eq_true rfl) dX11_wallLine_81 (fun H locs hW => ?_)
  refine lv_iconst C.1 C.2.1 dX11_wallLine_84 ic_m1 ?_
  refine lv_icmp_eq (tgt := 93) C.1 C.2.1 dX11_wallLine_85 rfl (fun c16 => ?_) (fun c16 => ?_)
  · have hf := (if_pos c16).symm.trans hf
    exact kX11_wallLine_93  C x0 x1 _ _ _ _ hx0 hW (lv_sub hl [0, 1] rfl) hf
  · have hf := (if_neg c16).symm.trans hf
    refine lv_aload_n C.1 C.2.1 dX11_wallLine_88 rfl (lv_at hl 0 rfl) ?_
    refine lv_iconst C.1 C.2.1 dX11_wallLine_89 ic_5 ?_
    obtain ⟨q17, h18, hf⟩ := bd hf
    refine m_callV (As := [.int (5 : Int32)]) (rest := []) C hW hx0 (cX11_wrong_ok  hx0 h18) mlX11_226 (by decide) rfl hl.1 rfl (Nat.le_of_ble_eq_true rfl) (Nat.le_of_ble_eq_true rfl) (Nat.le_of_ble_eq_true rfl) dX11_wallLine_90 (fun H locs hW => ?_)
    exact kX11_wallLine_93  C x0 x1 _ _ _ _ hx0 hW (lv_sub hl [0, 1] rfl) hf

set_option maxRecDepth 100000 in
theorem cX11_wallLine_ok {l : Launch} {G : Gv} {L : List Nat} {S : MS} {a0 : Nat} {q : MS} (ha0 : a0 < shM.1 ∧ shM.2.1 a0 = 11) (hf : fX11_wallLine a0 S = some q) : Mt l yX11_wallLine cX11_wallLine 2 none (9) G shM L S [.ref (ad L a0)] none q := by
  refine m_enter (lv := [(0, .ref (ad L a0))]) (plainFor_of_name (by decide)) (Nat.le_of_ble_eq_true rfl) rfl ?_
  intro p e s m below meth c A ls C hW hl
  unfold fX11_wallLine at hf
  refine lv_aload_n C.1 C.2.1 dX11_wallLine_0 rfl (lv_at hl 0 rfl) ?_
  obtain ⟨q19, h20, hf⟩ := bd hf
  refine m_callV (As := []) (rest := []) C hW ha0 (cX11_rowToken_ok  ha0 h20) mlX11_257 (by decide) rfl hl.1 rfl (Nat.le_of_ble_eq_true rfl) (Nat.le_of_ble_eq_true rfl) (Nat.le_of_ble_eq_true rfl) dX11_wallLine_1 (fun H locs hW => ?_)
  refine lv_istore_n (lv' := [(1, .int q19.1), (0, .ref (ad L a0))]) C.1 C.2.1 dX11_wallLine_4 rfl hl (by decide) rfl (fun ls hl => ?_)
  refine lv_aload_n C.1 C.2.1 dX11_wallLine_5 rfl (lv_at hl 1 rfl) ?_
  refine m_geti C hW ha0 flX11_217 dX11_wallLine_6 ?_
  refine lv_if_ne (tgt := 93) C.1 C.2.1 dX11_wallLine_9 rfl (fun c21 => ?_) (fun c21 => ?_)
  · have hf := (if_neg c21).symm.trans hf
    exact kX11_wallLine_93  C a0 q19.1 _ _ _ _ ha0 hW (lv_sub hl [1, 0] rfl) hf
  · have hf := (if_pos c21).symm.trans hf
    refine lv_aload_n C.1 C.2.1 dX11_wallLine_12 rfl (lv_at hl 1 rfl) ?_
    refine m_geti C hW ha0 flX11_182 dX11_wallLine_13 ?_
    refine lv_iconst C.1 C.2.1 dX11_wallLine_16 ic_2 ?_
    refine lv_icmp_ne (tgt := 93) C.1 C.2.1 dX11_wallLine_17 rfl (fun c22 => ?_) (fun c22 => ?_)
    · have hf := (if_neg c22).symm.trans hf
      exact kX11_wallLine_93  C a0 q19.1 _ _ _ _ ha0 hW (lv_sub hl [1, 0] rfl) hf
    · have hf := (if_pos c22).symm.trans hf
      refine lv_aload_n C.1 C.2.1 dX11_wallLine_20 rfl (lv_at hl 1 rfl) ?_
      refine m_geti C hW ha0 flX11_192 dX11_wallLine_21 ?_
      refine lv_aload_n C.1 C.2.1 dX11_wallLine_24 rfl (lv_at hl 1 rfl) ?_
      refine lv_iconst C.1 C.2.1 dX11_wallLine_25 ic_1 ?_
      obtain ⟨q23, h24, hf⟩ := bd hf
      refine m_callV (As := [.int (1 : Int32)]) (rest := [.int (gI q19.2 a0 33)]) C hW ha0 (cX11_fresher_ok  ha0 h24) mlX11_233 (by decide) rfl hl.1 rfl (Nat.le_of_ble_eq_true rfl) (Nat.le_of_ble_eq_true rfl) (Nat.le_of_ble_eq_true rfl) dX11_wallLine_26 (fun H locs hW => ?_)
      refine lv_icmp_ge (tgt := 93) C.1 C.2.1 dX11_wallLine_29 rfl (fun c25 => ?_) (fun c25 => ?_)
      · have hf := (if_pos c25).symm.trans hf
        exact kX11_wallLine_93  C a0 q19.1 _ _ _ _ ha0 hW (lv_sub hl [1, 0] rfl) hf
      · have hf := (if_neg c25).symm.trans hf
        refine lv_iload_n C.1 C.2.1 dX11_wallLine_32 rfl (lv_at hl 0 rfl) ?_
        refine lv_aload_n C.1 C.2.1 dX11_wallLine_33 rfl (lv_at hl 1 rfl) ?_
        refine lv_iconst C.1 C.2.1 dX11_wallLine_34 ic_2 ?_
        obtain ⟨q26, h27, hf⟩ := bd hf
        refine m_callV (As := [.int (2 : Int32)]) (rest := [.int q19.1]) C hW ha0 (cX11_fresher_ok  ha0 h27) mlX11_233 (by decide) rfl hl.1 rfl (Nat.le_of_ble_eq_true rfl) (Nat.le_of_ble_eq_true rfl) (Nat.le_of_ble_eq_true rfl) dX11_wallLine_35 (fun H locs hW => ?_)
        refine lv_icmp_ne (tgt := 61) C.1 C.2.1 dX11_wallLine_38 rfl (fun c28 => ?_) (fun c28 => ?_)
        · have hf := (if_neg c28).symm.trans hf
          exact kX11_wallLine_61  C a0 q19.1 _ _ _ _ ha0 hW (lv_sub hl [1, 0] rfl) hf
        · have hf := (if_pos c28).symm.trans hf
          refine lv_aload_n C.1 C.2.1 dX11_wallLine_41 rfl (lv_at hl 1 rfl) ?_
          refine m_geti C hW ha0 flX11_192 dX11_wallLine_42 ?_
          refine lv_aload_n C.1 C.2.1 dX11_wallLine_45 rfl (lv_at hl 1 rfl) ?_
          refine lv_iconst C.1 C.2.1 dX11_wallLine_46 ic_3 ?_
          obtain ⟨q29, h30, hf⟩ := bd hf
          refine m_callV (As := [.int (3 : Int32)]) (rest := [.int (gI q19.2 a0 33)]) C hW ha0 (cX11_fresher_ok  ha0 h30) mlX11_233 (by decide) rfl hl.1 rfl (Nat.le_of_ble_eq_true rfl) (Nat.le_of_ble_eq_true rfl) (Nat.le_of_ble_eq_true rfl) dX11_wallLine_47 (fun H locs hW => ?_)
          refine lv_icmp_ne (tgt := 61) C.1 C.2.1 dX11_wallLine_50 rfl (fun c31 => ?_) (fun c31 => ?_)
          · have hf := (if_neg c31).symm.trans hf
            exact kX11_wallLine_61  C a0 q19.1 _ _ _ _ ha0 hW (lv_sub hl [1, 0] rfl) hf
          · have hf := (if_pos c31).symm.trans hf
            refine lv_aload_n C.1 C.2.1 dX11_wallLine_53 rfl (lv_at hl 1 rfl) ?_
            refine lv_iconst C.1 C.2.1 dX11_wallLine_54 ic_5 ?_
            obtain ⟨q32, h33, hf⟩ := bd hf
            refine m_callV (As := [.int (5 : Int32)]) (rest := []) C hW ha0 (cX11_wrong_ok  ha0 h33) mlX11_226 (by decide) rfl hl.1 rfl (Nat.le_of_ble_eq_true rfl) (Nat.le_of_ble_eq_true rfl) (Nat.le_of_ble_eq_true rfl) dX11_wallLine_55 (fun H locs hW => ?_)
            refine lv_goto (tgt := 93) C.1 C.2.1 dX11_wallLine_58 rfl ?_
            exact kX11_wallLine_93  C a0 q19.1 _ _ _ _ ha0 hW (lv_sub hl [1, 0] rfl) hf

