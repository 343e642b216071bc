def fX11_word_97 (K4 : Nat → Int32 → Int32 → MS → Option Int32) : Nat → Nat → Int32 → Int32 → MS → Option Int32
  | 0, _, _, _, _ => none
  | n + 1, x0, x1, x2, S => (if bnd x2 lngB.length = true then (if lngC x2 = (32 : Int32) then K4 x0 (x1 + (1 : Int32)) (x2 + (1 : Int32)) S else (fX11_word_97 K4 n) x0 x1 (x2 + (1 : Int32)) S) else none)
def fX11_word_69 (K4 : Nat → Int32 → Int32 → MS → Option Int32) (x0 : Nat) (x1 : Int32) (x2 : Int32) (x3 : Int32) (S : MS) : Option Int32 := (if bnd (x2 + x3) lngB.length = true then (if lngC (x2 + x3) = (32 : Int32) then (if (gI S x0 31) + x3 = gI S x0 30 then some x1 else fX11_word_97 K4 1000 x0 x1 x2 S) else fX11_word_97 K4 1000 x0 x1 x2 S) else none)
def fX11_word_15 (K4 : Nat → Int32 → Int32 → MS → Option Int32) : Nat → Nat → Int32 → Int32 → Int32 → MS → Option Int32
  | 0, _, _, _, _, _ => none
  | n + 1, x0, x1, x2, x3, S => (if bnd (x2 + x3) lngB.length = true then (if lngC (x2 + x3) = (32 : Int32) then fX11_word_69 K4 x0 x1 x2 x3 S else (if (gI S x0 30) ≤ ((gI S x0 31) + x3) then fX11_word_69 K4 x0 x1 x2 x3 S else (if bnd ((gI S x0 31) + x3) (lnM (gR S x0 1)) = true then (if bnd (x2 + x3) lngB.length = true then (if gI S (gR S x0 1) ((gI S x0 31) + x3).toNatClampNeg = lngC (x2 + x3) then (fX11_word_15 K4 n) x0 x1 x2 (x3 + (1 : Int32)) S else fX11_word_69 K4 x0 x1 x2 x3 S) else none) else none))) else none)
def fX11_word_4  : Nat → Nat → Int32 → Int32 → MS → Option Int32
  | 0, _, _, _, _ => none
  | n + 1, x0, x1, x2, S => (if (113 : Int32) ≤ x2 then some (-1 : Int32) else fX11_word_15 (fX11_word_4  n) 1000 x0 x1 x2 (0 : Int32) S)
def fX11_word (a0 : Nat) (S : MS) : Option Int32 := fX11_word_4  1000 a0 (0 : Int32) (0 : Int32) S
set_option maxRecDepth 100000 in
theorem kX11_word_97 {p : Program} {l : Launch} {e : Env} {s : State} {m : MethodId} {av : Array Value} {below : List Frame} {meth : Method} {c : Code} {A : Nat → Prop} {G : Gv} {L : List Nat} {S : MS} {q : Int32} {K4 : Nat → Int32 → Int32 → MS → Option Int32} (hK4 : ∀ (x0 : Nat) (x1 : Int32) (x2 : Int32) (H : Heap) (locs : List Loc) (ls : Array Slot), (x0 < shM.1 ∧ shM.2.1 x0 = 11) → mW G shM L S A s H locs → lv_has ls 4 [(0, .ref (ad L x0)), (1, .int x1), (2, .int x2)] → K4 x0 x1 x2 S = some q → W p l e (rmd (5)) s m av below meth c H locs 0 0 (MQ below (mQ G shM L S (some (.int q)) A) av s 0 0 A) (F0 m 4 ls [])) (C : mC p s m av meth c cX11_word RX11 4 (some .int)) : ∀ (n : Nat) (x0 : Nat) (x1 : Int32) (x2 : Int32) (H : Heap) (locs : List Loc) (ls : Array Slot), (x0 < shM.1 ∧ shM.2.1 x0 = 11) → mW G shM L S A s H locs → lv_has ls 4 [(0, .ref (ad L x0)), (1, .int x1), (2, .int x2)] → fX11_word_97 K4 n x0 x1 x2 S = some q → W p l e (rmd (5)) s m av below meth c H locs 0 0 (MQ below (mQ G shM L S (some (.int q)) A) av s 0 0 A) (F0 m 97 ls []) := by
  intro n
  induction n with
  | zero =>
    intro x0 x1 x2 H locs ls hx0 hW hl hf
    rw [fX11_word_97] at hf
    cases hf
  | succ n ih =>
    intro x0 x1 x2 H locs ls hx0 hW hl hf
    rw [fX11_word_97] at hf
    refine va_ldcS C.1 C.2.1 C.2.2.2.1 hW.2.2.2.2.2.2.2.2.2.2.1 dX11_word_97 ?_
    refine lv_iload_n C.1 C.2.1 dX11_word_99 rfl (lv_at hl 2 rfl) ?_
    obtain ⟨hb1, hf⟩ := gd hf
    refine m_callK (n := 1) (As := [.int x2]) (rest := []) C hW (cJ0_charAt_5068e_ok hb1) rfl (gm_7 67 rfl rfl) (gm_1 179 rfl rfl) (gm_1 180 rfl rfl) (gm_1 6 rfl rfl) (gm_1 181 rfl rfl) (by decide +kernel) rfl hl.1 rfl (Nat.le_of_ble_eq_true rfl) (Nat.le_of_ble_eq_true rfl) (Nat.le_of_ble_eq_true rfl) dX11_word_100 (fun H locs hW => ?_)
    refine lv_bipush C.1 C.2.1 dX11_word_103 bp_32 ?_
    refine lv_icmp_eq (tgt := 114) C.1 C.2.1 dX11_word_105 rfl (fun c2 => ?_) (fun c2 => ?_)
    · have hf := (if_pos c2).symm.trans hf
      refine lv_iinc (v := x2 + (1 : Int32)) (lv' := [(2, .int (x2 + (1 : Int32))), (0, .ref (ad L x0)), (1, .int x1)]) C.1 C.2.1 dX11_word_114 hl (k := 2) rfl (congrArg (fun z => x2 + z) ic_1) (by decide) rfl (fun ls hl => ?_)
      refine lv_iinc (v := x1 + (1 : Int32)) (lv' := [(1, .int (x1 + (1 : Int32))), (2, .int (x2 + (1 : Int32))), (0, .ref (ad L x0))]) C.1 C.2.1 dX11_word_117 hl (k := 2) rfl (congrArg (fun z => x1 + z) ic_1) (by decide) rfl (fun ls hl => ?_)
      refine lv_goto (tgt := 4) C.1 C.2.1 dX11_word_120 rfl ?_
      exact hK4 x0 (x1 + (1 : Int32)) (x2 + (1 : Int32)) _ _ _ hx0 hW (lv_sub hl [2, 0, 1] rfl) hf
    · have hf := (if_neg c2).symm.trans hf
      refine lv_iinc (v := x2 + (1 : Int32)) (lv' := [(2, .int (x2 + (1 : Int32))), (0, .ref (ad L x0)), (1, .int x1)]) C.1 C.2.1 dX11_word_108 hl (k := 2) rfl (congrArg (fun z => x2 + z) ic_1) (by decide) rfl (fun ls hl => ?_)
      refine lv_goto (tgt := 97) C.1 C.2.1 dX11_word_111 rfl ?_
      exact ih x0 x1 (x2 + (1 : Int32)) _ _ _ hx0 hW (lv_sub hl [1, 2, 0] rfl) hf

set_option maxRecDepth 100000 in
theorem kX11_word_69 {p : Program} {l : Launch} {e : Env} {s : State} {m : MethodId} {av : Array Value} {below : List Frame} {meth : Method} {c : Code} {A : Nat → Prop} {G : Gv} {L : List Nat} {S : MS} {q : Int32} {K4 : Nat → Int32 → Int32 → MS → Option Int32} (hK4 : ∀ (x0 : Nat) (x1 : Int32) (x2 : Int32) (H : Heap) (locs : List Loc) (ls : Array Slot), (x0 < shM.1 ∧ shM.2.1 x0 = 11) → mW G shM L S A s H locs → lv_has ls 4 [(0, .ref (ad L x0)), (1, .int x1), (2, .int x2)] → K4 x0 x1 x2 S = some q → W p l e (rmd (5)) s m av below meth c H locs 0 0 (MQ below (mQ G shM L S (some (.int q)) A) av s 0 0 A) (F0 m 4 ls [])) (C : mC p s m av meth c cX11_word RX11 4 (some .int)) : ∀ (x0 : Nat) (x1 : Int32) (x2 : Int32) (x3 : Int32) (H : Heap) (locs : List Loc) (ls : Array Slot), (x0 < shM.1 ∧ shM.2.1 x0 = 11) → mW G shM L S A s H locs → lv_has ls 4 [(0, .ref (ad L x0)), (1, .int x1), (2, .int x2), (3, .int x3)] → fX11_word_69 K4 x0 x1 x2 x3 S = some q → W p l e (rmd (5)) s m av below meth c H locs 0 0 (MQ below (mQ G shM L S (some (.int q)) A) av s 0 0 A) (F0 m 69 ls []) := by
  intro x0 x1 x2 x3 H locs ls hx0 hW hl hf
  unfold fX11_word_69 at hf
  refine va_ldcS C.1 C.2.1 C.2.2.2.1 hW.2.2.2.2.2.2.2.2.2.2.1 dX11_word_69 ?_
  refine lv_iload_n C.1 C.2.1 dX11_word_71 rfl (lv_at hl 2 rfl) ?_
  refine lv_iload_n C.1 C.2.1 dX11_word_72 rfl (lv_at hl 3 rfl) ?_
  refine lv_iadd C.1 C.2.1 dX11_word_73 ?_
  obtain ⟨hb3, hf⟩ := gd hf
  refine m_callK (n := 1) (As := [.int (x2 + x3)]) (rest := []) C hW (cJ0_charAt_5068e_ok hb3) rfl (gm_7 67 rfl rfl) (gm_1 179 rfl rfl) (gm_1 180 rfl rfl) (gm_1 6 rfl rfl) (gm_1 181 rfl rfl) (by decide +kernel) rfl hl.1 rfl (Nat.le_of_ble_eq_true rfl) (Nat.le_of_ble_eq_true rfl) (Nat.le_of_ble_eq_true rfl) dX11_word_74 (fun H locs hW => ?_)
  refine lv_bipush C.1 C.2.1 dX11_word_77 bp_32 ?_
  refine lv_icmp_ne (tgt := 97) C.1 C.2.1 dX11_word_79 rfl (fun c4 => ?_) (fun c4 => ?_)
  · have hf := (if_neg c4).symm.trans hf
    exact kX11_word_97 hK4 C 1000 x0 x1 x2 _ _ _ hx0 hW (lv_sub hl [0, 1, 2] rfl) hf
  · have hf := (if_pos c4).symm.trans hf
    refine lv_aload_n C.1 C.2.1 dX11_word_82 rfl (lv_at hl 0 rfl) ?_
    refine m_geti C hW hx0 flX11_179 dX11_word_83 ?_
    refine lv_iload_n C.1 C.2.1 dX11_word_86 rfl (lv_at hl 3 rfl) ?_
    refine lv_iadd C.1 C.2.1 dX11_word_87 ?_
    refine lv_aload_n C.1 C.2.1 dX11_word_88 rfl (lv_at hl 0 rfl) ?_
    refine m_geti C hW hx0 flX11_169 dX11_word_89 ?_
    refine lv_icmp_ne (tgt := 97) C.1 C.2.1 dX11_word_92 rfl (fun c5 => ?_) (fun c5 => ?_)
    · have hf := (if_neg c5).symm.trans hf
      exact kX11_word_97 hK4 C 1000 x0 x1 x2 _ _ _ hx0 hW (lv_sub hl [0, 1, 2] rfl) hf
    · have hf := (if_pos c5).symm.trans hf
      refine lv_iload_n C.1 C.2.1 dX11_word_95 rfl (lv_at hl 1 rfl) ?_
      cases hf
      exact m_iret C hW dX11_word_96

set_option maxRecDepth 100000 in
theorem kX11_word_15 {p : Program} {l : Launch} {e : Env} {s : State} {m : MethodId} {av : Array Value} {below : List Frame} {meth : Method} {c : Code} {A : Nat → Prop} {G : Gv} {L : List Nat} {S : MS} {q : Int32} {K4 : Nat → Int32 → Int32 → MS → Option Int32} (hK4 : ∀ (x0 : Nat) (x1 : Int32) (x2 : Int32) (H : Heap) (locs : List Loc) (ls : Array Slot), (x0 < shM.1 ∧ shM.2.1 x0 = 11) → mW G shM L S A s H locs → lv_has ls 4 [(0, .ref (ad L x0)), (1, .int x1), (2, .int x2)] → K4 x0 x1 x2 S = some q → W p l e (rmd (5)) s m av below meth c H locs 0 0 (MQ below (mQ G shM L S (some (.int q)) A) av s 0 0 A) (F0 m 4 ls [])) (C : mC p s m av meth c cX11_word RX11 4 (some .int)) : ∀ (n : Nat) (x0 : Nat) (x1 : Int32) (x2 : Int32) (x3 : Int32) (H : Heap) (locs : List Loc) (ls : Array Slot), (x0 < shM.1 ∧ shM.2.1 x0 = 11) → mW G shM L S A s H locs → lv_has ls 4 [(0, .ref (ad L x0)), (1, .int x1), (2, .int x2), (3, .int x3)] → fX11_word_15 K4 n x0 x1 x2 x3 S = some q → W p l e (rmd (5)) s m av below meth c H locs 0 0 (MQ below (mQ G shM L S (some (.int q)) A) av s 0 0 A) (F0 m 15 ls []) := by
  intro n
  induction n with
  | zero =>
    intro x0 x1 x2 x3 H locs ls hx0 hW hl hf
    rw [fX11_word_15] at hf
    cases hf
  | succ n ih =>
    intro x0 x1 x2 x3 H locs ls hx0 hW hl hf
    rw [fX11_word_15] at hf
    refine va_ldcS C.1 C.2.1 C.2.2.2.1 hW.2.2.2.2.2.2.2.2.2.2.1 dX11_word_15 ?_
    refine lv_iload_n C.1 C.2.1 dX11_word_17 rfl (lv_at hl 2 rfl) ?_
    refine lv_iload_n C.1 C.2.1 dX11_word_18 rfl (lv_at hl 3 rfl) ?_
    refine lv_iadd C.1 C.2.1 dX11_word_19 ?_
    obtain ⟨hb6, hf⟩ := gd hf
    refine m_callK (n := 1) (As := [.int (x2 + x3)]) (rest := []) C hW (cJ0_charAt_5068e_ok hb6) rfl (gm_7 67 rfl rfl) (gm_1 179 rfl rfl) (gm_1 180 rfl rfl) (gm_1 6 rfl rfl) (gm_1 181 rfl rfl) (by decide +kernel) rfl hl.1 rfl (Nat.le_of_ble_eq_true rfl) (Nat.le_of_ble_eq_true rfl) (Nat.le_of_ble_eq_true rfl) dX11_word_20 (fun H locs hW => ?_)
    refine lv_bipush C.1 C.2.1 dX11_word_23 bp_32 ?_
    refine lv_icmp_eq (tgt := 69) C.1 C.2.1 dX11_word_25 rfl (fun c7 => ?_) (fun c7 => ?_)
    · have hf := (if_pos c7).symm.trans hf
      exact kX11_word_69 hK4 C x0 x1 x2 x3 _ _ _ hx0 hW (lv_sub hl [0, 1, 2, 3] rfl) hf
    · have hf := (if_neg c7).symm.trans hf
      refine lv_aload_n C.1 C.2.1 dX11_word_28 rfl (lv_at hl 0 rfl) ?_
      refine m_geti C hW hx0 flX11_179 dX11_word_29 ?_
      refine lv_iload_n C.1 C.2.1 dX11_word_32 rfl (lv_at hl 3 rfl) ?_
      refine lv_iadd C.1 C.2.1 dX11_word_33 ?_
      refine lv_aload_n C.1 C.2.1 dX11_word_34 rfl (lv_at hl 0 rfl) ?_
      refine m_geti C hW hx0 flX11_169 dX11_word_35 ?_
      refine lv_icmp_ge (tgt := 69) C.1 C.2.1 dX11_word_38 rfl (fun c8 => ?_) (fun c8 => ?_)
      · have hf := (if_pos c8).symm.trans hf
        exact kX11_word_69 hK4 C x0 x1 x2 x3 _ _ _ hx0 hW (lv_sub hl [0, 1, 2, 3] rfl) hf
      · have hf := (if_neg c8).symm.trans hf
        refine lv_aload_n C.1 C.2.1 dX11_word_41 rfl (lv_at hl 0 rfl) ?_
        refine m_getr C hW hx0 flX11_7 (by decide) dX11_word_42 (fun hk9 => ?_)
        refine lv_aload_n C.1 C.2.1 dX11_word_45 rfl (lv_at hl 0 rfl) ?_
        refine m_geti C hW hx0 flX11_179 dX11_word_46 ?_
        refine lv_iload_n C.1 C.2.1 dX11_word_49 rfl (lv_at hl 3 rfl) ?_
        refine lv_iadd C.1 C.2.1 dX11_word_50 ?_
        obtain ⟨hb10, hf⟩ := gd hf
        refine m_iald C hW hk9 hb10 dX11_word_51 ?_
        refine va_ldcS C.1 C.2.1 C.2.2.2.1 hW.2.2.2.2.2.2.2.2.2.2.1 dX11_word_52 ?_
        refine lv_iload_n C.1 C.2.1 dX11_word_54 rfl (lv_at hl 2 rfl) ?_
        refine lv_iload_n C.1 C.2.1 dX11_word_55 rfl (lv_at hl 3 rfl) ?_
        refine lv_iadd C.1 C.2.1 dX11_word_56 ?_
        obtain ⟨hb11, hf⟩ := gd hf
        refine m_callK (n := 1) (As := [.int (x2 + x3)]) (rest := [.int (gI S (gR S x0 1) ((gI S x0 31) + x3).toNatClampNeg)]) C hW (cJ0_charAt_5068e_ok hb11) rfl (gm_7 67 rfl rfl) (gm_1 179 rfl rfl) (gm_1 180 rfl rfl) (gm_1 6 rfl rfl) (gm_1 181 rfl rfl) (by decide +kernel) rfl hl.1 rfl (Nat.le_of_ble_eq_true rfl) (Nat.le_of_ble_eq_true rfl) (Nat.le_of_ble_eq_true rfl) dX11_word_57 (fun H locs hW => ?_)
        refine lv_icmp_ne (tgt := 69) C.1 C.2.1 dX11_word_60 rfl (fun c12 => ?_) (fun c12 => ?_)
        · have hf := (if_neg c12).symm.trans hf
          exact kX11_word_69 hK4 C x0 x1 x2 x3 _ _ _ hx0 hW (lv_sub hl [0, 1, 2, 3] rfl) hf
        · have hf := (if_pos c12).symm.trans hf
          refine lv_iinc (v := x3 + (1 : Int32)) (lv' := [(3, .int (x3 + (1 : Int32))), (0, .ref (ad L x0)), (1, .int x1), (2, .int x2)]) C.1 C.2.1 dX11_word_63 hl (k := 3) rfl (congrArg (fun z => x3 + z) ic_1) (by decide) rfl (fun ls hl => ?_)
          refine lv_goto (tgt := 15) C.1 C.2.1 dX11_word_66 rfl ?_
          exact ih x0 x1 x2 (x3 + (1 : Int32)) _ _ _ hx0 hW (lv_sub hl [1, 2, 3, 0] rfl) hf

set_option maxRecDepth 100000 in
theorem kX11_word_4 {p : Program} {l : Launch} {e : Env} {s : State} {m : MethodId} {av : Array Value} {below : List Frame} {meth : Method} {c : Code} {A : Nat → Prop} {G : Gv} {L : List Nat} {S : MS} {q : Int32}  (C : mC p s m av meth c cX11_word RX11 4 (some .int)) : ∀ (n : Nat) (x0 : Nat) (x1 : Int32) (x2 : Int32) (H : Heap) (locs : List Loc) (ls : Array Slot), (x0 < shM.1 ∧ shM.2.1 x0 = 11) → mW G shM L S A s H locs → lv_has ls 4 [(0, .ref (ad L x0)), (1, .int x1), (2, .int x2)] → fX11_word_4  n x0 x1 x2 S = some q → W p l e (rmd (5)) s m av below meth c H locs 0 0 (MQ below (mQ G shM L S (some (.int q)) A) av s 0 0 A) (F0 m 4 ls []) := by
  intro n
  induction n with
  | zero =>
    intro x0 x1 x2 H locs ls hx0 hW hl hf
    rw [fX11_word_4] at hf
    cases hf
  | succ n ih =>
    intro x0 x1 x2 H locs ls hx0 hW hl hf
    rw [fX11_word_4] at hf
    refine lv_iload_n C.1 C.2.1 dX11_word_4 rfl (lv_at hl 2 rfl) ?_
    refine va_ldcS C.1 C.2.1 C.2.2.2.1 hW.2.2.2.2.2.2.2.2.2.2.1 dX11_word_5 ?_
    refine m_callK (n := 0) (As := []) (rest := [.int x2]) C hW (cJ0_length_8abf5_ok) rfl (gm_7 66 rfl rfl) (gm_1 169 rfl rfl) (gm_1 170 rfl rfl) (gm_1 6 rfl rfl) (gm_1 171 rfl rfl) (by decide +kernel) rfl hl.1 rfl (Nat.le_of_ble_eq_true rfl) (Nat.le_of_ble_eq_true rfl) (Nat.le_of_ble_eq_true rfl) dX11_word_7 (fun H locs hW => ?_)
    refine lv_icmp_ge (tgt := 123) C.1 C.2.1 dX11_word_10 rfl (fun c13 => ?_) (fun c13 => ?_)
    · have hf := (if_pos c13).symm.trans hf
      refine lv_iconst C.1 C.2.1 dX11_word_123 ic_m1 ?_
      cases hf
      exact m_iret C hW dX11_word_124
    · have hf := (if_neg c13).symm.trans hf
      refine lv_iconst C.1 C.2.1 dX11_word_13 ic_0 ?_
      refine lv_istore_n (lv' := [(3, .int (0 : Int32)), (0, .ref (ad L x0)), (1, .int x1), (2, .int x2)]) C.1 C.2.1 dX11_word_14 rfl hl (by decide) rfl (fun ls hl => ?_)
      exact kX11_word_15 ih C 1000 x0 x1 x2 (0 : Int32) _ _ _ hx0 hW (lv_sub hl [1, 2, 3, 0] rfl) hf

set_option maxRecDepth 100000 in
theorem cX11_word_ok {l : Launch} {G : Gv} {L : List Nat} {S : MS} {a0 : Nat} {q : Int32} (ha0 : a0 < shM.1 ∧ shM.2.1 a0 = 11) (hf : fX11_word a0 S = some q) : Mt l yX11_word cX11_word 4 (some .int) (5) G shM L S [.ref (ad L a0)] (some (.int q)) S := by
  refine m_enter (lv := [(0, .ref (ad L a0))]) (plainFor_of_name (by decide)) (Nat.le_of_ble_eq_true rfl) rfl ?_
  intro p e s m below meth c A ls C hW hl
  unfold fX11_word at hf
  refine lv_iconst C.1 C.2.1 dX11_word_0 ic_0 ?_
  refine lv_istore_n (lv' := [(1, .int (0 : Int32)), (0, .ref (ad L a0))]) C.1 C.2.1 dX11_word_1 rfl hl (by decide) rfl (fun ls hl => ?_)
  refine lv_iconst C.1 C.2.1 dX11_word_2 ic_0 ?_
  refine lv_istore_n (lv' := [(2, .int (0 : Int32)), (1, .int (0 : Int32)), (0, .ref (ad L a0))]) C.1 C.2.1 dX11_word_3 rfl hl (by decide) rfl (fun ls hl => ?_)
  exact kX11_word_4  C 1000 a0 (0 : Int32) (0 : Int32) _ _ _ ha0 hW (lv_sub hl [2, 1, 0] rfl) hf

def fX11_fallsBy_84 (K23 : Nat → Int32 → Int32 → Int32 → Int32 → MS → Option MS) (x0 : Nat) (x1 : Int32) (x2 : Int32) (x5 : Int32) (x6 : Int32) (S : MS) : Option MS := K23 x0 x1 x2 x5 (x6 + (1 : Int32)) S
def fX11_fallsBy_23  : Nat → Nat → Int32 → Int32 → Int32 → Int32 → MS → Option MS
  | 0, _, _, _, _, _, _ => none
  | n + 1, x0, x1, x2, x5, x6, S => (if x5 ≤ x6 then (if bnd x1 (lnM (gR S x0 46)) = true then (if gI S x0 58 = gI S (gR S x0 46) x1.toNatClampNeg then (if bnd x1 (lnM (gR S x0 47)) = true then (if gI S x0 59 = gI S (gR S x0 47) x1.toNatClampNeg then some (pI S x0 60 (1 : Int32)) else some (pI S x0 60 (0 : Int32))) else none) else some (pI S x0 60 (0 : Int32))) else none) else (fX11_rowBy  x2 S).bind fun q8 => (fX11_columnBy  x2 S).bind fun q10 => (fX11_isCell  x0 ((gI S x0 58) + q8) ((gI S x0 59) + q10) S).bind fun q12 => (if q12 = (0 : Int32) then fX11_fallsBy_84 (fX11_fallsBy_23  n) x0 x1 x2 x5 x6 S else (fX11_rowBy  x2 S).bind fun q15 => (fX11_columnBy  x2 (pI S x0 58 ((gI S x0 58) + q15))).bind fun q17 => fX11_fallsBy_84 (fX11_fallsBy_23  n) x0 x1 x2 x5 x6 (pI (pI S x0 58 ((gI S x0 58) + q15)) x0 59 ((gI (pI S x0 58 ((gI S x0 58) + q15)) x0 59) + q17))))
def fX11_fallsBy (a0 : Nat) (a1 : Int32) (a2 : Int32) (a3 : Int32) (a4 : Int32) (S : MS) : Option MS := (fX11_calls  a0 a1 a3 (0 : Int32) (0 : Int32) a4 S).bind fun q19 => (fX11_within  a0 (0 : Int32) (7 : Int32) a3 q19).bind fun q21 => fX11_fallsBy_23  1000 a0 a1 a2 q21.1 (0 : Int32) q21.2
set_option maxRecDepth 100000 in
theorem kX11_fallsBy_84 {p : Program} {l : Launch} {e : Env} {s : State} {m : MethodId} {av : Array Value} {below : List Frame} {meth : Method} {c : Code} {A : Nat → Prop} {G : Gv} {L : List Nat} {q : MS} {K23 : Nat → Int32 → Int32 → Int32 → Int32 → MS → Option MS} (hK23 : ∀ (x0 : Nat) (x1 : Int32) (x2 : Int32) (x5 : Int32) (x6 : Int32) (S : MS) (H : Heap) (locs : List Loc) (ls : Array Slot), (x0 < shM.1 ∧ shM.2.1 x0 = 11) → mW G shM L S A s H locs → lv_has ls 7 [(0, .ref (ad L x0)), (1, .int x1), (2, .int x2), (5, .int x5), (6, .int x6)] → K23 x0 x1 x2 x5 x6 S = some q → W p l e (rmd (5)) s m av below meth c H locs 0 0 (MQ below (mQ G shM L q none A) av s 0 0 A) (F0 m 23 ls [])) (C : mC p s m av meth c cX11_fallsBy RX11 7 none) : ∀ (x0 : Nat) (x1 : Int32) (x2 : Int32) (x5 : Int32) (x6 : Int32) (S : MS) (H : Heap) (locs : List Loc) (ls : Array Slot), (x0 < shM.1 ∧ shM.2.1 x0 = 11) → mW G shM L S A s H locs → lv_has ls 7 [(0, .ref (ad L x0)), (1, .int x1), (2, .int x2), (5, .int x5), (6, .int x6)] → fX11_fallsBy_84 K23 x0 x1 x2 x5 x6 S = some q → W p l e (rmd (5)) s m av below meth c H locs 0 0 (MQ below (mQ G shM L q none A) av s 0 0 A) (F0 m 84 ls []) := by
  intro x0 x1 x2 x5 x6 S H locs ls hx0 hW hl hf
  unfold fX11_fallsBy_84 at hf
  refine lv_iinc (v := x6 + (1 : Int32)) (lv' := [(6, .int (x6 + (1 : Int32))), (0, .ref (ad L x0)), (1, .int x1), (2, .int x2), (5, .int x5)]) C.1 C.2.1 dX11_fallsBy_84 hl (k := 4) rfl (congrArg (fun z => x6 + z) ic_1) (by decide) rfl (fun ls hl => ?_)
  refine lv_goto (tgt := 23) C.1 C.2.1 dX11_fallsBy_87 rfl ?_
  exact hK23 x0 x1 x2 x5 (x6 + (1 : Int32)) _ _ _ _ hx0 hW (lv_sub hl [1, 2, 3, 4, 0] rfl) hf

set_option maxRecDepth 100000 in
theorem kX11_fallsBy_23 {p : Program} {l : Launch} {e : Env} {s : State} {m : MethodId} {av : Array Value} {below : List Frame} {meth : Method} {c : Code} {A : Nat → Prop} {G : Gv} {L : List Nat} {q : MS}  (C : mC p s m av meth c cX11_fallsBy RX11 7 none) : ∀ (n : Nat) (x0 : Nat) (x1 : Int32) (x2 : Int32) (x5 : Int32) (x6 : Int32) (S : MS) (H : Heap) (locs : List Loc) (ls : Array Slot), (x0 < shM.1 ∧ shM.2.1 x0 = 11) → mW G shM L S A s H locs → lv_has ls 7 [(0, .ref (ad L x0)), (1, .int x1), (2, .int x2), (5, .int x5), (6, .int x6)] → fX11_fallsBy_23  n x0 x1 x2 x5 x6 S = some q → W p l e (rmd (5)) s m av below meth c H locs 0 0 (MQ below (mQ G shM L q none A) av s 0 0 A) (F0 m 23 ls []) := by
  intro n
  induction n with
  | zero =>
    intro x0 x1 x2 x5 x6 S H locs ls hx0 hW hl hf
    rw [fX11_fallsBy_23] at hf
    cases hf
  | succ n ih =>
    intro x0 x1 x2 x5 x6 S H locs ls hx0 hW hl hf
    rw [fX11_fallsBy_23] at hf
    refine lv_iload C.1 C.2.1 dX11_fallsBy_23 (lv_at hl 4 rfl) ?_
    refine lv_iload C.1 C.2.1 dX11_fallsBy_25 (lv_at hl 3 rfl) ?_
    refine lv_icmp_ge (tgt := 90) C.1 C.2.1 dX11_fallsBy_27 rfl (fun c1 => ?_) (fun c1 => ?_)
    · have hf := (if_pos c1).symm.trans hf
      refine lv_aload_n C.1 C.2.1 dX11_fallsBy_90 rfl (lv_at hl 0 rfl) ?_
      refine lv_aload_n C.1 C.2.1 dX11_fallsBy_91 rfl (lv_at hl 0 rfl) ?_
      refine m_geti C hW hx0 flX11_387 dX11_fallsBy_92 ?_
      refine lv_aload_n C.1 C.2.1 dX11_fallsBy_95 rfl (lv_at hl 0 rfl) ?_
      refine m_getr C hW hx0 flX11_102 (by decide) dX11_fallsBy_96 (fun hk2 => ?_)
      refine lv_iload_n C.1 C.2.1 dX11_fallsBy_99 rfl (lv_at hl 1 rfl) ?_
      obtain ⟨hb3, hf⟩ := gd hf
      refine m_iald C hW hk2 hb3 dX11_fallsBy_100 ?_
      refine lv_icmp_ne (tgt := 121) C.1 C.2.1 dX11_fallsBy_101 rfl (fun c4 => ?_) (fun c4 => ?_)
      · have hf := (if_neg c4).symm.trans hf
        refine lv_iconst C.1 C.2.1 dX11_fallsBy_121 ic_0 ?_
        refine m_putz C hW hx0 fpX11_403 rfl dX11_fallsBy_122 (fun H locs hW => ?_)
        cases hf
        exact m_vret C hW dX11_fallsBy_125
      · have hf := (if_pos c4).symm.trans hf
        refine lv_aload_n C.1 C.2.1 dX11_fallsBy_104 rfl (lv_at hl 0 rfl) ?_
        refine m_geti C hW hx0 flX11_393 dX11_fallsBy_105 ?_
        refine lv_aload_n C.1 C.2.1 dX11_fallsBy_108 rfl (lv_at hl 0 rfl) ?_
        refine m_getr C hW hx0 flX11_105 (by decide) dX11_fallsBy_109 (fun hk5 => ?_)
        refine lv_iload_n C.1 C.2.1 dX11_fallsBy_112 rfl (lv_at hl 1 rfl) ?_
        obtain ⟨hb6, hf⟩ := gd hf
        refine m_iald C hW hk5 hb6 dX11_fallsBy_113 ?_
        refine lv_icmp_ne (tgt := 121) C.1 C.2.1 dX11_fallsBy_114 rfl (fun c7 => ?_) (fun c7 => ?_)
        · have hf := (if_neg c7).symm.trans hf
          refine lv_iconst C.1 C.2.1 dX11_fallsBy_121 ic_0 ?_
          refine m_putz C hW hx0 fpX11_403 rfl dX11_fallsBy_122 (fun H locs hW => ?_)
          cases hf
          exact m_vret C hW dX11_fallsBy_125
        · have hf := (if_pos c7).symm.trans hf
          refine lv_iconst C.1 C.2.1 dX11_fallsBy_117 ic_1 ?_
          refine lv_goto (tgt := 122) C.1 C.2.1 dX11_fallsBy_118 rfl ?_
          refine m_putz C hW hx0 fpX11_403 rfl dX11_fallsBy_122 (fun H locs hW => ?_)
          cases hf
          exact m_vret C hW dX11_fallsBy_125
    · have hf := (if_neg c1).symm.trans hf
      refine lv_aload_n C.1 C.2.1 dX11_fallsBy_30 rfl (lv_at hl 0 rfl) ?_
      refine lv_aload_n C.1 C.2.1 dX11_fallsBy_31 rfl (lv_at hl 0 rfl) ?_
      refine m_geti C hW hx0 flX11_387 dX11_fallsBy_32 ?_
      refine lv_iload_n C.1 C.2.1 dX11_fallsBy_35 rfl (lv_at hl 2 rfl) ?_
      obtain ⟨q8, h9, hf⟩ := bd hf
      refine m_callS (As := [.int x2]) (rest := [.int (gI S x0 58), .ref (ad L x0)]) C hW (cX11_rowBy_ok   h9) mlX11_390 rfl hl.1 rfl (Nat.le_of_ble_eq_true rfl) (Nat.le_of_ble_eq_true rfl) (Nat.le_of_ble_eq_true rfl) dX11_fallsBy_36 (fun H locs hW => ?_)
      refine lv_iadd C.1 C.2.1 dX11_fallsBy_39 ?_
      refine lv_aload_n C.1 C.2.1 dX11_fallsBy_40 rfl (lv_at hl 0 rfl) ?_
      refine m_geti C hW hx0 flX11_393 dX11_fallsBy_41 ?_
      refine lv_iload_n C.1 C.2.1 dX11_fallsBy_44 rfl (lv_at hl 2 rfl) ?_
      obtain ⟨q10, h11, hf⟩ := bd hf
      refine m_callS (As := [.int x2]) (rest := [.int (gI S x0 59), .int ((gI S x0 58) + q8), .ref (ad L x0)]) C hW (cX11_columnBy_ok   h11) mlX11_396 rfl hl.1 rfl (Nat.le_of_ble_eq_true rfl) (Nat.le_of_ble_eq_true rfl) (Nat.le_of_ble_eq_true rfl) dX11_fallsBy_45 (fun H locs hW => ?_)
      refine lv_iadd C.1 C.2.1 dX11_fallsBy_48 ?_
      obtain ⟨q12, h13, hf⟩ := bd hf
      refine m_callV (As := [.int ((gI S x0 58) + q8), .int ((gI S x0 59) + q10)]) (rest := []) C hW hx0 (cX11_isCell_ok  hx0 h13) mlX11_399 (by decide) rfl hl.1 rfl (Nat.le_of_ble_eq_true rfl) (Nat.le_of_ble_eq_true rfl) (Nat.le_of_ble_eq_true rfl) dX11_fallsBy_49 (fun H locs hW => ?_)
      refine lv_if_ne (tgt := 58) C.1 C.2.1 dX11_fallsBy_52 rfl (fun c14 => ?_) (fun c14 => ?_)
      · have hf := (if_neg c14).symm.trans hf
        refine lv_aload_n C.1 C.2.1 dX11_fallsBy_58 rfl (lv_at hl 0 rfl) ?_
        refine lv_dup C.1 C.2.1 dX11_fallsBy_59 rfl ?_
        refine m_geti C hW hx0 flX11_387 dX11_fallsBy_60 ?_
        refine lv_iload_n C.1 C.2.1 dX11_fallsBy_63 rfl (lv_at hl 2 rfl) ?_
        obtain ⟨q15, h16, hf⟩ := bd hf
        refine m_callS (As := [.int x2]) (rest := [.int (gI S x0 58), .ref (ad L x0)]) C hW (cX11_rowBy_ok   h16) mlX11_390 rfl hl.1 rfl (Nat.le_of_ble_eq_true rfl) (Nat.le_of_ble_eq_true rfl) (Nat.le_of_ble_eq_true rfl) dX11_fallsBy_64 (fun H locs hW => ?_)
        refine lv_iadd C.1 C.2.1 dX11_fallsBy_67 ?_
        refine m_puti C hW hx0 fpX11_387 dX11_fallsBy_68 (fun H locs hW => ?_)
        refine lv_aload_n C.1 C.2.1 dX11_fallsBy_71 rfl (lv_at hl 0 rfl) ?_
        refine lv_dup C.1 C.2.1 dX11_fallsBy_72 rfl ?_
        refine m_geti C hW hx0 flX11_393 dX11_fallsBy_73 ?_
        refine lv_iload_n C.1 C.2.1 dX11_fallsBy_76 rfl (lv_at hl 2 rfl) ?_
        obtain ⟨q17, h18, hf⟩ := bd hf
        refine m_callS (As := [.int x2]) (rest := [.int (gI (pI S x0 58 ((gI S x0 58) + q15)) x0 59), .ref (ad L x0)]) C hW (cX11_columnBy_ok   h18) mlX11_396 rfl hl.1 rfl (Nat.le_of_ble_eq_true rfl) (Nat.le_of_ble_eq_true rfl) (Nat.le_of_ble_eq_true rfl) dX11_fallsBy_77 (fun H locs hW => ?_)
        refine lv_iadd C.1 C.2.1 dX11_fallsBy_80 ?_
        refine m_puti C hW hx0 fpX11_393 dX11_fallsBy_81 (fun H locs hW => ?_)
        exact kX11_fallsBy_84 ih C x0 x1 x2 x5 x6 _ _ _ _ hx0 hW (lv_sub hl [0, 1, 2, 3, 4] rfl) hf
      · have hf := (if_pos c14).symm.trans hf
        refine lv_goto (tgt := 84) C.1 C.2.1 dX11_fallsBy_55 rfl ?_
        exact kX11_fallsBy_84 ih C x0 x1 x2 x5 x6 _ _ _ _ hx0 hW (lv_sub hl [0, 1, 2, 3, 4] rfl) hf

set_option maxRecDepth 100000 in
theorem cX11_fallsBy_ok {l : Launch} {G : Gv} {L : List Nat} {S : MS} {a0 : Nat} {a1 : Int32} {a2 : Int32} {a3 : Int32} {a4 : Int32} {q : MS} (ha0 : a0 < shM.1 ∧ shM.2.1 a0 = 11) (hf : fX11_fallsBy a0 a1 a2 a3 a4 S = some q) : Mt l yX11_fallsBy cX11_fallsBy 7 none (5) G shM L S [.ref (ad L a0), .int a1, .int a2, .int a3, .int a4] none q := by
  refine m_enter (lv := [(0, .ref (ad L a0)), (1, .int a1), (2, .int a2), (3, .int a3), (4, .int a4)]) (plainFor_of_name (by decide)) (Nat.le_of_ble_eq_true rfl) rfl ?_
  intro p e s m below meth c A ls C hW hl
  unfold fX11_fallsBy at hf
  refine lv_aload_n C.1 C.2.1 dX11_fallsBy_0 rfl (lv_at hl 0 rfl) ?_
  refine lv_iload_n C.1 C.2.1 dX11_fallsBy_1 rfl (lv_at hl 1 rfl) ?_
  refine lv_iload_n C.1 C.2.1 dX11_fallsBy_2 rfl (lv_at hl 3 rfl) ?_
  refine lv_iconst C.1 C.2.1 dX11_fallsBy_3 ic_0 ?_
  refine lv_iconst C.1 C.2.1 dX11_fallsBy_4 ic_0 ?_
  refine lv_iload C.1 C.2.1 dX11_fallsBy_5 (lv_at hl 4 rfl) ?_
  obtain ⟨q19, h20, hf⟩ := bd hf
  refine m_callV (As := [.int a1, .int a3, .int (0 : Int32), .int (0 : Int32), .int a4]) (rest := []) C hW ha0 (cX11_calls_ok  ha0 h20) mlX11_379 (by decide) rfl hl.1 rfl (Nat.le_of_ble_eq_true rfl) (Nat.le_of_ble_eq_true rfl) (Nat.le_of_ble_eq_true rfl) dX11_fallsBy_7 (fun H locs hW => ?_)
  refine lv_aload_n C.1 C.2.1 dX11_fallsBy_10 rfl (lv_at hl 0 rfl) ?_
  refine lv_iconst C.1 C.2.1 dX11_fallsBy_11 ic_0 ?_
  refine lv_bipush C.1 C.2.1 dX11_fallsBy_12 bp_7 ?_
  refine lv_iload_n C.1 C.2.1 dX11_fallsBy_14 rfl (lv_at hl 3 rfl) ?_
  obtain ⟨q21, h22, hf⟩ := bd hf
  refine m_callV (As := [.int (0 : Int32), .int (7 : Int32), .int a3]) (rest := []) C hW ha0 (cX11_within_ok  ha0 h22) mlX11_383 (by decide) rfl hl.1 rfl (Nat.le_of_ble_eq_true rfl) (Nat.le_of_ble_eq_true rfl) (Nat.le_of_ble_eq_true rfl) dX11_fallsBy_15 (fun H locs hW => ?_)
  refine lv_istore (lv' := [(5, .int q21.1), (0, .ref (ad L a0)), (1, .int a1), (2, .int a2), (3, .int a3), (4, .int a4)]) C.1 C.2.1 dX11_fallsBy_18 hl (by decide) rfl (fun ls hl => ?_)
  refine lv_iconst C.1 C.2.1 dX11_fallsBy_20 ic_0 ?_
  refine lv_istore (lv' := [(6, .int (0 : Int32)), (5, .int q21.1), (0, .ref (ad L a0)), (1, .int a1), (2, .int a2), (3, .int a3), (4, .int a4)]) C.1 C.2.1 dX11_fallsBy_21 hl (by decide) rfl (fun ls hl => ?_)
  exact kX11_fallsBy_23  C 1000 a0 a1 a2 q21.1 (0 : Int32) _ _ _ _ ha0 hW (lv_sub hl [2, 3, 4, 1, 0] rfl) hf

def fX11_stepsBy_52  (x0 : Nat) (x1 : Int32) (x3 : Int32) (S : MS) : Option MS := (if gI S x0 57 = (4 : Int32) then some S else (if bnd x1 (lnM (gR S x0 48)) = true then (if bnd x1 (lnM (gR S x0 48)) = true then some (pI S (gR S x0 48) x1.toNatClampNeg (if ((gI S (gR S x0 48) x1.toNatClampNeg) + x3) < (99 : Int32) then ((gI S (gR S x0 48) x1.toNatClampNeg) + x3) else (99 : Int32))) else none) else none))
def fX11_stepsBy (a0 : Nat) (a1 : Int32) (a2 : Int32) (S : MS) : Option MS := (if bnd a1 (lnM (gR S a0 43)) = true then (fX11_calls  a0 a1 (0 : Int32) (0 : Int32) (0 : Int32) ((gI S (gR S a0 43) a1.toNatClampNeg) - ((gI S (gR S a0 43) a1.toNatClampNeg) / (24 : Int32)) * (24 : Int32)) S).bind fun q8 => (fX11_within  a0 (2 : Int32) (9 : Int32) (1 : Int32) q8).bind fun q10 => (if bnd a1 (lnM (gR q10.2 a0 46)) = true then (fX11_rowBy  a2 q10.2).bind fun q14 => (if bnd a1 (lnM (gR q10.2 a0 46)) = true then (if bnd a1 (lnM (gR (pI q10.2 (gR q10.2 a0 46) a1.toNatClampNeg ((gI q10.2 (gR q10.2 a0 46) a1.toNatClampNeg) + q14)) a0 47)) = true then (fX11_columnBy  a2 (pI q10.2 (gR q10.2 a0 46) a1.toNatClampNeg ((gI q10.2 (gR q10.2 a0 46) a1.toNatClampNeg) + q14))).bind fun q19 => (if bnd a1 (lnM (gR (pI q10.2 (gR q10.2 a0 46) a1.toNatClampNeg ((gI q10.2 (gR q10.2 a0 46) a1.toNatClampNeg) + q14)) a0 47)) = true then fX11_stepsBy_52  a0 a1 q10.1 (pI (pI q10.2 (gR q10.2 a0 46) a1.toNatClampNeg ((gI q10.2 (gR q10.2 a0 46) a1.toNatClampNeg) + q14)) (gR (pI q10.2 (gR q10.2 a0 46) a1.toNatClampNeg ((gI q10.2 (gR q10.2 a0 46) a1.toNatClampNeg) + q14)) a0 47) a1.toNatClampNeg ((gI (pI q10.2 (gR q10.2 a0 46) a1.toNatClampNeg ((gI q10.2 (gR q10.2 a0 46) a1.toNatClampNeg) + q14)) (gR (pI q10.2 (gR q10.2 a0 46) a1.toNatClampNeg ((gI q10.2 (gR q10.2 a0 46) a1.toNatClampNeg) + q14)) a0 47) a1.toNatClampNeg) + q19)) else none) else none) else none) else none) else none)
set_option maxRecDepth 100000 in
theorem kX11_stepsBy_52 {p : Program} {l : Launch} {e : Env} {s : State} {m : MethodId} {av : Array Value} {below : List Frame} {meth : Method} {c : Code} {A : Nat → Prop} {G : Gv} {L : List Nat} {q : MS}  (C : mC p s m av meth c cX11_stepsBy RX11 4 none) : ∀ (x0 : Nat) (x1 : Int32) (x3 : Int32) (S : MS) (H : Heap) (locs : List Loc) (ls : Array Slot), (x0 < shM.1 ∧ shM.2.1 x0 = 11) → mW G shM L S A s H locs → lv_has ls 4 [(0, .ref (ad L x0)), (1, .int x1), (3, .int x3)] → fX11_stepsBy_52  x0 x1 x3 S = some q → W p l e (rmd (5)) s m av below meth c H locs 0 0 (MQ below (mQ G shM L q none A) av s 0 0 A) (F0 m 52 ls []) := by
  intro x0 x1 x3 S H locs ls hx0 hW hl hf
  unfold fX11_stepsBy_52 at hf
  refine lv_aload_n C.1 C.2.1 dX11_stepsBy_52 rfl (lv_at hl 0 rfl) ?_
  refine m_geti C hW hx0 flX11_409 dX11_stepsBy_53 ?_
  refine lv_iconst C.1 C.2.1 dX11_stepsBy_56 ic_4 ?_
  refine lv_icmp_eq (tgt := 79) C.1 C.2.1 dX11_stepsBy_57 rfl (fun c1 => ?_) (fun c1 => ?_)
  · have hf := (if_pos c1).symm.trans hf
    cases hf
    exact m_vret C hW dX11_stepsBy_79
  · have hf := (if_neg c1).symm.trans hf
    refine lv_aload_n C.1 C.2.1 dX11_stepsBy_60 rfl (lv_at hl 0 rfl) ?_
    refine m_getr C hW hx0 flX11_108 (by decide) dX11_stepsBy_61 (fun hk2 => ?_)
    refine lv_iload_n C.1 C.2.1 dX11_stepsBy_64 rfl (lv_at hl 1 rfl) ?_
    refine lv_bipush C.1 C.2.1 dX11_stepsBy_65 bp_99 ?_
    refine lv_aload_n C.1 C.2.1 dX11_stepsBy_67 rfl (lv_at hl 0 rfl) ?_
    refine m_getr C hW hx0 flX11_108 (by decide) dX11_stepsBy_68 (fun hk3 => ?_)
    refine lv_iload_n C.1 C.2.1 dX11_stepsBy_71 rfl (lv_at hl 1 rfl) ?_
    obtain ⟨hb4, hf⟩ := gd hf
    refine m_iald C hW hk3 hb4 dX11_stepsBy_72 ?_
    refine lv_iload_n C.1 C.2.1 dX11_stepsBy_73 rfl (lv_at hl 2 rfl) ?_
    refine lv_iadd C.1 C.2.1 dX11_stepsBy_74 ?_
    refine va_mmin C.1 C.2.1 (C.2.2.1.trans hl.1.symm) C.2.2.2.1 (C.2.2.2.2.1 _ kw_1863) (C.2.2.2.2.1 _ kw_696) (C.2.2.2.2.1 _ kw_135) (C.2.2.2.2.1 _ kw_697) (Nat.le_of_ble_eq_true rfl) (Nat.le_of_ble_eq_true rfl) (Nat.le_refl 0) (Nat.le_refl 0) dX11_stepsBy_75 ?_
    obtain ⟨hb5, hf⟩ := gd hf
    refine m_iast C hW hk2 hb5 dX11_stepsBy_78 (fun H locs hW => ?_)
    cases hf
    exact m_vret C hW dX11_stepsBy_79

set_option maxRecDepth 100000 in
theorem cX11_stepsBy_ok {l : Launch} {G : Gv} {L : List Nat} {S : MS} {a0 : Nat} {a1 : Int32} {a2 : Int32} {q : MS} (ha0 : a0 < shM.1 ∧ shM.2.1 a0 = 11) (hf : fX11_stepsBy a0 a1 a2 S = some q) : Mt l yX11_stepsBy cX11_stepsBy 4 none (5) G shM L S [.ref (ad L a0), .int a1, .int a2] none q := by
  refine m_enter (lv := [(0, .ref (ad L a0)), (1, .int a1), (2, .int a2)]) (plainFor_of_name (by decide)) (Nat.le_of_ble_eq_true rfl) rfl ?_
  intro p e s m below meth c A ls C hW hl
  unfold fX11_stepsBy at hf
  refine lv_aload_n C.1 C.2.1 dX11_stepsBy_0 rfl (lv_at hl 0 rfl) ?_
  refine lv_iload_n C.1 C.2.1 dX11_stepsBy_1 rfl (lv_at hl 1 rfl) ?_
  refine lv_iconst C.1 C.2.1 dX11_stepsBy_2 ic_0 ?_
  refine lv_iconst C.1 C.2.1 dX11_stepsBy_3 ic_0 ?_
  refine lv_iconst C.1 C.2.1 dX11_stepsBy_4 ic_0 ?_
  refine lv_aload_n C.1 C.2.1 dX11_stepsBy_5 rfl (lv_at hl 0 rfl) ?_
  refine m_getr C hW ha0 flX11_93 (by decide) dX11_stepsBy_6 (fun hk6 => ?_)
  refine lv_iload_n C.1 C.2.1 dX11_stepsBy_9 rfl (lv_at hl 1 rfl) ?_
  obtain ⟨hb7, hf⟩ := gd hf
  refine m_iald C hW hk6 hb7 dX11_stepsBy_10 ?_
  refine lv_bipush C.1 C.2.1 dX11_stepsBy_11 bp_24 ?_
  refine lv_irem C.1 C.2.1 dX11_stepsBy_13 (by decide) ?_
  obtain ⟨q8, h9, hf⟩ := bd hf
  refine m_callV (As := [.int a1, .int (0 : Int32), .int (0 : Int32), .int (0 : Int32), .int ((gI S (gR S a0 43) a1.toNatClampNeg) - ((gI S (gR S a0 43) a1.toNatClampNeg) / (24 : Int32)) * (24 : Int32))]) (rest := []) C hW ha0 (cX11_calls_ok  ha0 h9) mlX11_379 (by decide) rfl hl.1 rfl (Nat.le_of_ble_eq_true rfl) (Nat.le_of_ble_eq_true rfl) (Nat.le_of_ble_eq_true rfl) dX11_stepsBy_14 (fun H locs hW => ?_)
  refine lv_aload_n C.1 C.2.1 dX11_stepsBy_17 rfl (lv_at hl 0 rfl) ?_
  refine lv_iconst C.1 C.2.1 dX11_stepsBy_18 ic_2 ?_
  refine lv_bipush C.1 C.2.1 dX11_stepsBy_19 bp_9 ?_
  refine lv_iconst C.1 C.2.1 dX11_stepsBy_21 ic_1 ?_
  obtain ⟨q10, h11, hf⟩ := bd hf
  refine m_callV (As := [.int (2 : Int32), .int (9 : Int32), .int (1 : Int32)]) (rest := []) C hW ha0 (cX11_within_ok  ha0 h11) mlX11_383 (by decide) rfl hl.1 rfl (Nat.le_of_ble_eq_true rfl) (Nat.le_of_ble_eq_true rfl) (Nat.le_of_ble_eq_true rfl) dX11_stepsBy_22 (fun H locs hW => ?_)
  refine lv_istore_n (lv' := [(3, .int q10.1), (0, .ref (ad L a0)), (1, .int a1), (2, .int a2)]) C.1 C.2.1 dX11_stepsBy_25 rfl hl (by decide) rfl (fun ls hl => ?_)
  refine lv_aload_n C.1 C.2.1 dX11_stepsBy_26 rfl (lv_at hl 1 rfl) ?_
  refine m_getr C hW ha0 flX11_102 (by decide) dX11_stepsBy_27 (fun hk12 => ?_)
  refine lv_iload_n C.1 C.2.1 dX11_stepsBy_30 rfl (lv_at hl 2 rfl) ?_
  refine lv_dup2_11 C.1 C.2.1 dX11_stepsBy_31 rfl rfl ?_
  obtain ⟨hb13, hf⟩ := gd hf
  refine m_iald C hW hk12 hb13 dX11_stepsBy_32 ?_
  refine lv_iload_n C.1 C.2.1 dX11_stepsBy_33 rfl (lv_at hl 3 rfl) ?_
  obtain ⟨q14, h15, hf⟩ := bd hf
  refine m_callS (As := [.int a2]) (rest := [.int (gI q10.2 (gR q10.2 a0 46) a1.toNatClampNeg), .int a1, .ref (ad L (gR q10.2 a0 46))]) C hW (cX11_rowBy_ok   h15) mlX11_390 rfl hl.1 rfl (Nat.le_of_ble_eq_true rfl) (Nat.le_of_ble_eq_true rfl) (Nat.le_of_ble_eq_true rfl) dX11_stepsBy_34 (fun H locs hW => ?_)
  refine lv_iadd C.1 C.2.1 dX11_stepsBy_37 ?_
  obtain ⟨hb16, hf⟩ := gd hf
  refine m_iast C hW hk12 hb16 dX11_stepsBy_38 (fun H locs hW => ?_)
  refine lv_aload_n C.1 C.2.1 dX11_stepsBy_39 rfl (lv_at hl 1 rfl) ?_
  refine m_getr C hW ha0 flX11_105 (by decide) dX11_stepsBy_40 (fun hk17 => ?_)
  refine lv_iload_n C.1 C.2.1 dX11_stepsBy_43 rfl (lv_at hl 2 rfl) ?_
  refine lv_dup2_11 C.1 C.2.1 dX11_stepsBy_44 rfl rfl ?_
  obtain ⟨hb18, hf⟩ := gd hf
  refine m_iald C hW hk17 hb18 dX11_stepsBy_45 ?_
  refine lv_iload_n C.1 C.2.1 dX11_stepsBy_46 rfl (lv_at hl 3 rfl) ?_
  obtain ⟨q19, h20, hf⟩ := bd hf
  refine m_callS (As := [.int a2]) (rest := [.int (gI (pI q10.2 (gR q10.2 a0 46) a1.toNatClampNeg ((gI q10.2 (gR q10.2 a0 46) a1.toNatClampNeg) + q14)) (gR (pI q10.2 (gR q10.2 a0 46) a1.toNatClampNeg ((gI q10.2 (gR q10.2 a0 46) a1.toNatClampNeg) + q14)) a0 47) a1.toNatClampNeg), .int a1, .ref (ad L (gR (pI q10.2 (gR q10.2 a0 46) a1.toNatClampNeg ((gI q10.2 (gR q10.2 a0 46) a1.toNatClampNeg) + q14)) a0 47))]) C hW (cX11_columnBy_ok   h20) mlX11_396 rfl hl.1 rfl (Nat.le_of_ble_eq_true rfl) (Nat.le_of_ble_eq_true rfl) (Nat.le_of_ble_eq_true rfl) dX11_stepsBy_47 (fun H locs hW => ?_)
  refine lv_iadd C.1 C.2.1 dX11_stepsBy_50 ?_
  obtain ⟨hb21, hf⟩ := gd hf
  refine m_iast C hW hk17 hb21 dX11_stepsBy_51 (fun H locs hW => ?_)
  exact kX11_stepsBy_52  C a0 a1 q10.1 _ _ _ _ ha0 hW (lv_sub hl [1, 2, 0] rfl) hf

def fX11_meets_87  (x0 : Nat) (x1 : Int32) (x3 : Int32) (S : MS) : Option MS := (if bnd x3 (lnM (gR S x0 52)) = true then (if bnd x3 (lnM (gR S x0 53)) = true then (if bnd x1 (lnM (gR S x0 43)) = true then (fX11_calls  x0 x1 (0 : Int32) (gI S (gR S x0 52) x3.toNatClampNeg) (gI S (gR S x0 53) x3.toNatClampNeg) ((gI S (gR S x0 43) x1.toNatClampNeg) - ((gI S (gR S x0 43) x1.toNatClampNeg) / (24 : Int32)) * (24 : Int32)) S).bind fun q7 => (if bnd x3 (lnM (gR q7 x0 54)) = true then (fX11_within  x0 (1 : Int32) (99 : Int32) (1 : Int32) q7).bind fun q12 => (if bnd x3 (lnM (gR q7 x0 54)) = true then some (pI q12.2 (gR q7 x0 54) x3.toNatClampNeg (if ((gI q7 (gR q7 x0 54) x3.toNatClampNeg) + q12.1) < (999 : Int32) then ((gI q7 (gR q7 x0 54) x3.toNatClampNeg) + q12.1) else (999 : Int32))) else none) else none) else none) else none) else none)
def fX11_meets (a0 : Nat) (a1 : Int32) (a2 : Int32) (S : MS) : Option MS := (if bnd a2 (lnM (gR S a0 20)) = true then (if bnd a2 (lnM (gR S a0 21)) = true then (fX11_isHerAt  a0 a1 (gI S (gR S a0 20) a2.toNatClampNeg) (gI S (gR S a0 21) a2.toNatClampNeg) S).bind fun q19 => (if q19 = (0 : Int32) then (if bnd a2 (lnM (gR S a0 20)) = true then (if bnd a2 (lnM (gR S a0 21)) = true then (fX11_isItAt  a0 (gI S (gR S a0 20) a2.toNatClampNeg) (gI S (gR S a0 21) a2.toNatClampNeg) S).bind fun q26 => (if q26 = (0 : Int32) then some S else (if bnd (((4 : Int32) * a1) + a2) (lnM (gR S a0 53)) = true then (if bnd (((4 : Int32) * a1) + a2) (lnM (gR S a0 53)) = true then fX11_meets_87  a0 a1 (((4 : Int32) * a1) + a2) (pI S (gR S a0 53) ((((4 : Int32) * a1) + a2).toNatClampNeg) (if ((gI S (gR S a0 53) (((4 : Int32) * a1) + a2).toNatClampNeg) + (1 : Int32)) < (999 : Int32) then ((gI S (gR S a0 53) (((4 : Int32) * a1) + a2).toNatClampNeg) + (1 : Int32)) else (999 : Int32))) else none) else none)) else none) else none) else (if bnd (((4 : Int32) * a1) + a2) (lnM (gR S a0 52)) = true then (if bnd (((4 : Int32) * a1) + a2) (lnM (gR S a0 52)) = true then some (pI S (gR S a0 52) ((((4 : Int32) * a1) + a2).toNatClampNeg) (if ((gI S (gR S a0 52) (((4 : Int32) * a1) + a2).toNatClampNeg) + (1 : Int32)) < (999 : Int32) then ((gI S (gR S a0 52) (((4 : Int32) * a1) + a2).toNatClampNeg) + (1 : Int32)) else (999 : Int32))) else none) else none)) else none) else none)
set_option maxRecDepth 100000 in
theorem kX11_meets_87 {p : Program} {l : Launch} {e : Env} {s : State} {m : MethodId} {av : Array Value} {below : List Frame} {meth : Method} {c : Code} {A : Nat → Prop} {G : Gv} {L : List Nat} {q : MS}  (C : mC p s m av meth c cX11_meets RX11 4 none) : ∀ (x0 : Nat) (x1 : Int32) (x3 : Int32) (S : MS) (H : Heap) (locs : List Loc) (ls : Array Slot), (x0 < shM.1 ∧ shM.2.1 x0 = 11) → mW G shM L S A s H locs → lv_has ls 4 [(0, .ref (ad L x0)), (1, .int x1), (3, .int x3)] → fX11_meets_87  x0 x1 x3 S = some q → W p l e (rmd (5)) s m av below meth c H locs 0 0 (MQ below (mQ G shM L q none A) av s 0 0 A) (F0 m 87 ls []) := by
  intro x0 x1 x3 S H locs ls hx0 hW hl hf
  unfold fX11_meets_87 at hf
  refine lv_aload_n C.1 C.2.1 dX11_meets_87 rfl (lv_at hl 0 rfl) ?_
  refine lv_iload_n C.1 C.2.1 dX11_meets_88 rfl (lv_at hl 1 rfl) ?_
  refine lv_iconst C.1 C.2.1 dX11_meets_89 ic_0 ?_
  refine lv_aload_n C.1 C.2.1 dX11_meets_90 rfl (lv_at hl 0 rfl) ?_
  refine m_getr C hW hx0 flX11_120 (by decide) dX11_meets_91 (fun hk1 => ?_)
  refine lv_iload_n C.1 C.2.1 dX11_meets_94 rfl (lv_at hl 2 rfl) ?_
  obtain ⟨hb2, hf⟩ := gd hf
  refine m_iald C hW hk1 hb2 dX11_meets_95 ?_
  refine lv_aload_n C.1 C.2.1 dX11_meets_96 rfl (lv_at hl 0 rfl) ?_
  refine m_getr C hW hx0 flX11_123 (by decide) dX11_meets_97 (fun hk3 => ?_)
  refine lv_iload_n C.1 C.2.1 dX11_meets_100 rfl (lv_at hl 2 rfl) ?_
  obtain ⟨hb4, hf⟩ := gd hf
  refine m_iald C hW hk3 hb4 dX11_meets_101 ?_
  refine lv_aload_n C.1 C.2.1 dX11_meets_102 rfl (lv_at hl 0 rfl) ?_
  refine m_getr C hW hx0 flX11_93 (by decide) dX11_meets_103 (fun hk5 => ?_)
  refine lv_iload_n C.1 C.2.1 dX11_meets_106 rfl (lv_at hl 1 rfl) ?_
  obtain ⟨hb6, hf⟩ := gd hf
  refine m_iald C hW hk5 hb6 dX11_meets_107 ?_
  refine lv_bipush C.1 C.2.1 dX11_meets_108 bp_24 ?_
  refine lv_irem C.1 C.2.1 dX11_meets_110 (by decide) ?_
  obtain ⟨q7, h8, hf⟩ := bd hf
  refine m_callV (As := [.int x1, .int (0 : Int32), .int (gI S (gR S x0 52) x3.toNatClampNeg), .int (gI S (gR S x0 53) x3.toNatClampNeg), .int ((gI S (gR S x0 43) x1.toNatClampNeg) - ((gI S (gR S x0 43) x1.toNatClampNeg) / (24 : Int32)) * (24 : Int32))]) (rest := []) C hW hx0 (cX11_calls_ok  hx0 h8) mlX11_379 (by decide) rfl hl.1 rfl (Nat.le_of_ble_eq_true rfl) (Nat.le_of_ble_eq_true rfl) (Nat.le_of_ble_eq_true rfl) dX11_meets_111 (fun H locs hW => ?_)
  refine lv_aload_n C.1 C.2.1 dX11_meets_114 rfl (lv_at hl 0 rfl) ?_
  refine m_getr C hW hx0 flX11_126 (by decide) dX11_meets_115 (fun hk9 => ?_)
  refine lv_iload_n C.1 C.2.1 dX11_meets_118 rfl (lv_at hl 2 rfl) ?_
  refine lv_sipush C.1 C.2.1 dX11_meets_119 sp_999 ?_
  refine lv_aload_n C.1 C.2.1 dX11_meets_122 rfl (lv_at hl 0 rfl) ?_
  refine m_getr C hW hx0 flX11_126 (by decide) dX11_meets_123 (fun hk10 => ?_)
  refine lv_iload_n C.1 C.2.1 dX11_meets_126 rfl (lv_at hl 2 rfl) ?_
  obtain ⟨hb11, hf⟩ := gd hf
  refine m_iald C hW hk10 hb11 dX11_meets_127 ?_
  refine lv_aload_n C.1 C.2.1 dX11_meets_128 rfl (lv_at hl 0 rfl) ?_
  refine lv_iconst C.1 C.2.1 dX11_meets_129 ic_1 ?_
  refine lv_bipush C.1 C.2.1 dX11_meets_130 bp_99 ?_
  refine lv_iconst C.1 C.2.1 dX11_meets_132 ic_1 ?_
  obtain ⟨q12, h13, hf⟩ := bd hf
  refine m_callV (As := [.int (1 : Int32), .int (99 : Int32), .int (1 : Int32)]) (rest := [.int (gI q7 (gR q7 x0 54) x3.toNatClampNeg), .int (999 : Int32), .int x3, .ref (ad L (gR q7 x0 54))]) C hW hx0 (cX11_within_ok  hx0 h13) mlX11_383 (by decide) rfl hl.1 rfl (Nat.le_of_ble_eq_true rfl) (Nat.le_of_ble_eq_true rfl) (Nat.le_of_ble_eq_true rfl) dX11_meets_133 (fun H locs hW => ?_)
  refine lv_iadd C.1 C.2.1 dX11_meets_136 ?_
  refine va_mmin C.1 C.2.1 (C.2.2.1.trans hl.1.symm) C.2.2.2.1 (C.2.2.2.2.1 _ kw_1863) (C.2.2.2.2.1 _ kw_696) (C.2.2.2.2.1 _ kw_135) (C.2.2.2.2.1 _ kw_697) (Nat.le_of_ble_eq_true rfl) (Nat.le_of_ble_eq_true rfl) (Nat.le_refl 0) (Nat.le_refl 0) dX11_meets_137 ?_
  obtain ⟨hb14, hf⟩ := gd hf
  refine m_iast C hW hk9 hb14 dX11_meets_140 (fun H locs hW => ?_)
  cases hf
  exact m_vret C hW dX11_meets_141

set_option maxRecDepth 100000 in
theorem cX11_meets_ok {l : Launch} {G : Gv} {L : List Nat} {S : MS} {a0 : Nat} {a1 : Int32} {a2 : Int32} {q : MS} (ha0 : a0 < shM.1 ∧ shM.2.1 a0 = 11) (hf : fX11_meets a0 a1 a2 S = some q) : Mt l yX11_meets cX11_meets 4 none (5) G shM L S [.ref (ad L a0), .int a1, .int a2] none q := by
  refine m_enter (lv := [(0, .ref (ad L a0)), (1, .int a1), (2, .int a2)]) (plainFor_of_name (by decide)) (Nat.le_of_ble_eq_true rfl) rfl ?_
  intro p e s m below meth c A ls C hW hl
  unfold fX11_meets at hf
  refine lv_iconst C.1 C.2.1 dX11_meets_0 ic_4 ?_
  refine lv_iload_n C.1 C.2.1 dX11_meets_1 rfl (lv_at hl 1 rfl) ?_
  refine lv_imul C.1 C.2.1 dX11_meets_2 ?_
  refine lv_iload_n C.1 C.2.1 dX11_meets_3 rfl (lv_at hl 2 rfl) ?_
  refine lv_iadd C.1 C.2.1 dX11_meets_4 ?_
  refine lv_istore_n (lv' := [(3, .int (((4 : Int32) * a1) + a2)), (0, .ref (ad L a0)), (1, .int a1), (2, .int a2)]) C.1 C.2.1 dX11_meets_5 rfl hl (by decide) rfl (fun ls hl => ?_)
  refine lv_aload_n C.1 C.2.1 dX11_meets_6 rfl (lv_at hl 1 rfl) ?_
  refine lv_iload_n C.1 C.2.1 dX11_meets_7 rfl (lv_at hl 2 rfl) ?_
  refine lv_aload_n C.1 C.2.1 dX11_meets_8 rfl (lv_at hl 1 rfl) ?_
  refine m_getr C hW ha0 flX11_64 (by decide) dX11_meets_9 (fun hk15 => ?_)
  refine lv_iload_n C.1 C.2.1 dX11_meets_12 rfl (lv_at hl 3 rfl) ?_
  obtain ⟨hb16, hf⟩ := gd hf
  refine m_iald C hW hk15 hb16 dX11_meets_13 ?_
  refine lv_aload_n C.1 C.2.1 dX11_meets_14 rfl (lv_at hl 1 rfl) ?_
  refine m_getr C hW ha0 flX11_67 (by decide) dX11_meets_15 (fun hk17 => ?_)
  refine lv_iload_n C.1 C.2.1 dX11_meets_18 rfl (lv_at hl 3 rfl) ?_
  obtain ⟨hb18, hf⟩ := gd hf
  refine m_iald C hW hk17 hb18 dX11_meets_19 ?_
  obtain ⟨q19, h20, hf⟩ := bd hf
  refine m_callV (As := [.int a1, .int (gI S (gR S a0 20) a2.toNatClampNeg), .int (gI S (gR S a0 21) a2.toNatClampNeg)]) (rest := []) C hW ha0 (cX11_isHerAt_ok  ha0 h20) mlX11_441 (by decide) rfl hl.1 rfl (Nat.le_of_ble_eq_true rfl) (Nat.le_of_ble_eq_true rfl) (Nat.le_of_ble_eq_true rfl) dX11_meets_20 (fun H locs hW => ?_)
  refine lv_if_eq (tgt := 47) C.1 C.2.1 dX11_meets_23 rfl (fun c21 => ?_) (fun c21 => ?_)
  · have hf := (if_pos c21).symm.trans hf
    refine lv_aload_n C.1 C.2.1 dX11_meets_47 rfl (lv_at hl 1 rfl) ?_
    refine lv_aload_n C.1 C.2.1 dX11_meets_48 rfl (lv_at hl 1 rfl) ?_
    refine m_getr C hW ha0 flX11_64 (by decide) dX11_meets_49 (fun hk22 => ?_)
    refine lv_iload_n C.1 C.2.1 dX11_meets_52 rfl (lv_at hl 3 rfl) ?_
    obtain ⟨hb23, hf⟩ := gd hf
    refine m_iald C hW hk22 hb23 dX11_meets_53 ?_
    refine lv_aload_n C.1 C.2.1 dX11_meets_54 rfl (lv_at hl 1 rfl) ?_
    refine m_getr C hW ha0 flX11_67 (by decide) dX11_meets_55 (fun hk24 => ?_)
    refine lv_iload_n C.1 C.2.1 dX11_meets_58 rfl (lv_at hl 3 rfl) ?_
    obtain ⟨hb25, hf⟩ := gd hf
    refine m_iald C hW hk24 hb25 dX11_meets_59 ?_
    obtain ⟨q26, h27, hf⟩ := bd hf
    refine m_callV (As := [.int (gI S (gR S a0 20) a2.toNatClampNeg), .int (gI S (gR S a0 21) a2.toNatClampNeg)]) (rest := []) C hW ha0 (cX11_isItAt_ok  ha0 h27) mlX11_445 (by decide) rfl hl.1 rfl (Nat.le_of_ble_eq_true rfl) (Nat.le_of_ble_eq_true rfl) (Nat.le_of_ble_eq_true rfl) dX11_meets_60 (fun H locs hW => ?_)
    refine lv_if_ne (tgt := 67) C.1 C.2.1 dX11_meets_63 rfl (fun c28 => ?_) (fun c28 => ?_)
    · have hf := (if_neg c28).symm.trans hf
      refine lv_aload_n C.1 C.2.1 dX11_meets_67 rfl (lv_at hl 1 rfl) ?_
      refine m_getr C hW ha0 flX11_123 (by decide) dX11_meets_68 (fun hk29 => ?_)
      refine lv_iload_n C.1 C.2.1 dX11_meets_71 rfl (lv_at hl 0 rfl) ?_
      refine lv_sipush C.1 C.2.1 dX11_meets_72 sp_999 ?_
      refine lv_aload_n C.1 C.2.1 dX11_meets_75 rfl (lv_at hl 1 rfl) ?_
      refine m_getr C hW ha0 flX11_123 (by decide) dX11_meets_76 (fun hk30 => ?_)
      refine lv_iload_n C.1 C.2.1 dX11_meets_79 rfl (lv_at hl 0 rfl) ?_
      obtain ⟨hb31, hf⟩ := gd hf
      refine m_iald C hW hk30 hb31 dX11_meets_80 ?_
      refine lv_iconst C.1 C.2.1 dX11_meets_81 ic_1 ?_
      refine lv_iadd C.1 C.2.1 dX11_meets_82 ?_
      refine va_mmin C.1 C.2.1 (C.2.2.1.trans hl.1.symm) C.2.2.2.1 (C.2.2.2.2.1 _ kw_1863) (C.2.2.2.2.1 _ kw_696) (C.2.2.2.2.1 _ kw_135) (C.2.2.2.2.1 _ kw_697) (Nat.le_of_ble_eq_true rfl) (Nat.le_of_ble_eq_true rfl) (Nat.le_refl 0) (Nat.le_refl 0) dX11_meets_83 ?_
      obtain ⟨hb32, hf⟩ := gd hf
      refine m_iast C hW hk29 hb32 dX11_meets_86 (fun H locs hW => ?_)
      exact kX11_meets_87  C a0 a1 (((4 : Int32) * a1) + a2) _ _ _ _ ha0 hW (lv_sub hl [1, 2, 0] rfl) hf
    · have hf := (if_pos c28).symm.trans hf
      cases hf
      exact m_vret C hW dX11_meets_66
  · have hf := (if_neg c21).symm.trans hf
    refine lv_aload_n C.1 C.2.1 dX11_meets_26 rfl (lv_at hl 1 rfl) ?_
    refine m_getr C hW ha0 flX11_120 (by decide) dX11_meets_27 (fun hk33 => ?_)
    refine lv_iload_n C.1 C.2.1 dX11_meets_30 rfl (lv_at hl 0 rfl) ?_
    refine lv_sipush C.1 C.2.1 dX11_meets_31 sp_999 ?_
    refine lv_aload_n C.1 C.2.1 dX11_meets_34 rfl (lv_at hl 1 rfl) ?_
    refine m_getr C hW ha0 flX11_120 (by decide) dX11_meets_35 (fun hk34 => ?_)
    refine lv_iload_n C.1 C.2.1 dX11_meets_38 rfl (lv_at hl 0 rfl) ?_
    obtain ⟨hb35, hf⟩ := gd hf
    refine m_iald C hW hk34 hb35 dX11_meets_39 ?_
    refine lv_iconst C.1 C.2.1 dX11_meets_40 ic_1 ?_
    refine lv_iadd C.1 C.2.1 dX11_meets_41 ?_
    refine va_mmin C.1 C.2.1 (C.2.2.1.trans hl.1.symm) C.2.2.2.1 (C.2.2.2.2.1 _ kw_1863) (C.2.2.2.2.1 _ kw_696) (C.2.2.2.2.1 _ kw_135) (C.2.2.2.2.1 _ kw_697) (Nat.le_of_ble_eq_true rfl) (Nat.le_of_ble_eq_true rfl) (Nat.le_refl 0) (Nat.le_refl 0) dX11_meets_42 ?_
    obtain ⟨hb36, hf⟩ := gd hf
    refine m_iast C hW hk33 hb36 dX11_meets_45 (fun H locs hW => ?_)
    cases hf
    exact m_vret C hW dX11_meets_46

