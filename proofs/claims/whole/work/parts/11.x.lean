def fX5_release_2  : Nat → Nat → Int32 → Int32 → MS → Option MS
  | 0, _, _, _, _ => none
  | n + 1, x0, x1, x2, S => (if (72 : Int32) ≤ x2 then some S else (fX5_lastWaiting  x0 S).bind fun q2 => (fX5_rankOf  q2 S).bind fun q4 => (if q4 < x1 then some S else (fX5_lastWaiting  x0 S).bind fun q8 => (fX1_add  (gR S x0 10) (-q8) S).bind fun q10 => (fX5_release_2  n) x0 x1 (x2 + (1 : Int32)) (pI q10 x0 11 ((gI q10 x0 11) - (1 : Int32)))))
def fX5_release (a0 : Nat) (a1 : Int32) (S : MS) : Option MS := fX5_release_2  1000 a0 a1 (0 : Int32) S
set_option maxRecDepth 100000 in
theorem kX5_release_2 {p : Program} {l : Launch} {e : Env} {s : State} {m : MethodId} {av : Array Value} {below : List Frame} {meth : Method} {c : Code} {A : Nat → Prop} {G : Gv} {L : List Nat} {q : MS}  (C : mC p s m av meth c cX5_release RX5 3 none) : ∀ (n : Nat) (x0 : Nat) (x1 : Int32) (x2 : Int32) (S : MS) (H : Heap) (locs : List Loc) (ls : Array Slot), (x0 < shX.1 ∧ shX.2.1 x0 = 5) → mW G shX L S A s H locs → lv_has ls 3 [(0, .ref (ad L x0)), (1, .int x1), (2, .int x2)] → fX5_release_2  n x0 x1 x2 S = some q → W p l e (rmd (2)) s m av below meth c H locs 0 0 (MQ below (mQ G shX L q none A) av s 0 0 A) (F0 m 2 ls []) := by
  intro n
  induction n with
  | zero =>
    intro x0 x1 x2 S H locs ls hx0 hW hl hf
    rw [fX5_release_2] at hf
    cases hf
  | succ n ih =>
    intro x0 x1 x2 S H locs ls hx0 hW hl hf
    rw [fX5_release_2] at hf
    refine lv_iload_n C.1 C.2.1 dX5_release_2 rfl (lv_at hl 2 rfl) ?_
    refine lv_bipush C.1 C.2.1 dX5_release_3 bp_72 ?_
    refine lv_icmp_ge (tgt := 47) C.1 C.2.1 dX5_release_5 rfl (fun c1 => ?_) (fun c1 => ?_)
    · have hf := (if_pos c1).symm.trans hf
      cases hf
      exact m_vret C hW dX5_release_47
    · have hf := (if_neg c1).symm.trans hf
      refine lv_aload_n C.1 C.2.1 dX5_release_8 rfl (lv_at hl 0 rfl) ?_
      obtain ⟨q2, h3, hf⟩ := bd hf
      refine m_callV (As := []) (rest := []) C hW hx0 (cX5_lastWaiting_ok  hx0 h3) mlX5_255 (by decide) rfl hl.1 rfl (Nat.le_of_ble_eq_true rfl) (Nat.le_of_ble_eq_true rfl) (Nat.le_of_ble_eq_true rfl) dX5_release_9 (fun H locs hW => ?_)
      obtain ⟨q4, h5, hf⟩ := bd hf
      refine m_callS (As := [.int q2]) (rest := []) C hW (cX5_rankOf_ok   h5) mlX5_232 rfl hl.1 rfl (Nat.le_of_ble_eq_true rfl) (Nat.le_of_ble_eq_true rfl) (Nat.le_of_ble_eq_true rfl) dX5_release_12 (fun H locs hW => ?_)
      refine lv_iload_n C.1 C.2.1 dX5_release_15 rfl (lv_at hl 1 rfl) ?_
      refine lv_icmp_lt (tgt := 47) C.1 C.2.1 dX5_release_16 rfl (fun c6 => ?_) (fun c6 => ?_)
      · have hf := (if_pos c6).symm.trans hf
        cases hf
        exact m_vret C hW dX5_release_47
      · have hf := (if_neg c6).symm.trans hf
        refine lv_aload_n C.1 C.2.1 dX5_release_19 rfl (lv_at hl 0 rfl) ?_
        refine m_getr C hW hx0 flX5_34 (by decide) dX5_release_20 (fun hk7 => ?_)
        refine lv_aload_n C.1 C.2.1 dX5_release_23 rfl (lv_at hl 0 rfl) ?_
        obtain ⟨q8, h9, hf⟩ := bd hf
        refine m_callV (As := []) (rest := [.ref (ad L (gR S x0 10))]) C hW hx0 (cX5_lastWaiting_ok  hx0 h9) mlX5_255 (by decide) rfl hl.1 rfl (Nat.le_of_ble_eq_true rfl) (Nat.le_of_ble_eq_true rfl) (Nat.le_of_ble_eq_true rfl) dX5_release_24 (fun H locs hW => ?_)
        refine lv_ineg C.1 C.2.1 dX5_release_27 ?_
        obtain ⟨q10, h11, hf⟩ := bd hf
        refine m_callV (As := [.int (-q8)]) (rest := []) C hW hk7 (cX1_add_ok  hk7 h11) mlX5_246 (by decide) rfl hl.1 rfl (Nat.le_of_ble_eq_true rfl) (Nat.le_of_ble_eq_true rfl) (Nat.le_of_ble_eq_true rfl) dX5_release_28 (fun H locs hW => ?_)
        refine lv_aload_n C.1 C.2.1 dX5_release_31 rfl (lv_at hl 0 rfl) ?_
        refine lv_dup C.1 C.2.1 dX5_release_32 rfl ?_
        refine m_geti C hW hx0 flX5_220 dX5_release_33 ?_
        refine lv_iconst C.1 C.2.1 dX5_release_36 ic_1 ?_
        refine lv_isub C.1 C.2.1 dX5_release_37 ?_
        refine m_puti C hW hx0 fpX5_220 dX5_release_38 (fun H locs hW => ?_)
        refine lv_iinc (v := x2 + (1 : Int32)) (lv' := [(2, .int (x2 + (1 : Int32))), (0, .ref (ad L x0)), (1, .int x1)]) C.1 C.2.1 dX5_release_41 hl (k := 2) rfl (congrArg (fun z => x2 + z) ic_1) (by decide) rfl (fun ls hl => ?_)
        refine lv_goto (tgt := 2) C.1 C.2.1 dX5_release_44 rfl ?_
        exact ih x0 x1 (x2 + (1 : Int32)) _ _ _ _ hx0 hW (lv_sub hl [1, 2, 0] rfl) hf

set_option maxRecDepth 100000 in
theorem cX5_release_ok {l : Launch} {G : Gv} {L : List Nat} {S : MS} {a0 : Nat} {a1 : Int32} {q : MS} (ha0 : a0 < shX.1 ∧ shX.2.1 a0 = 5) (hf : fX5_release a0 a1 S = some q) : Mt l yX5_release cX5_release 3 none (2) G shX L S [.ref (ad L a0), .int a1] none q := by
  refine m_enter (lv := [(0, .ref (ad L a0)), (1, .int a1)]) (plainFor_of_name (by decide)) (Nat.le_of_ble_eq_true rfl) rfl ?_
  intro p e s m below meth c A ls C hW hl
  unfold fX5_release at hf
  refine lv_iconst C.1 C.2.1 dX5_release_0 ic_0 ?_
  refine lv_istore_n (lv' := [(2, .int (0 : Int32)), (0, .ref (ad L a0)), (1, .int a1)]) C.1 C.2.1 dX5_release_1 rfl hl (by decide) rfl (fun ls hl => ?_)
  exact kX5_release_2  C 1000 a0 a1 (0 : Int32) _ _ _ _ ha0 hW (lv_sub hl [1, 2, 0] rfl) hf

def fX5_countKnot (a0 : Nat) (S : MS) : Option MS := (if (gI S (gR S a0 9) 15) < (64 : Int32) then some (pI S (gR S a0 9) 15 ((gI S (gR S a0 9) 15) + (1 : Int32))) else (fX5_fail  a0 (2 : Int32) (gI S a0 7) S).bind fun q4 => some q4)
set_option maxRecDepth 100000 in
theorem cX5_countKnot_ok {l : Launch} {G : Gv} {L : List Nat} {S : MS} {a0 : Nat} {q : MS} (ha0 : a0 < shX.1 ∧ shX.2.1 a0 = 5) (hf : fX5_countKnot a0 S = some q) : Mt l yX5_countKnot cX5_countKnot 1 none (2) G shX L S [.ref (ad L a0)] none q := by
  refine m_enter (lv := [(0, .ref (ad L a0))]) (plainFor_of_name (by decide)) (Nat.le_of_ble_eq_true rfl) rfl ?_
  intro p e s m below meth c A ls C hW hl
  unfold fX5_countKnot at hf
  refine lv_aload_n C.1 C.2.1 dX5_countKnot_0 rfl (lv_at hl 0 rfl) ?_
  refine m_getr C hW ha0 flX5_24 (by decide) dX5_countKnot_1 (fun hk1 => ?_)
  refine m_geti C hW hk1 flX5_258 dX5_countKnot_4 ?_
  refine lv_bipush C.1 C.2.1 dX5_countKnot_7 bp_64 ?_
  refine lv_icmp_lt (tgt := 24) C.1 C.2.1 dX5_countKnot_9 rfl (fun c2 => ?_) (fun c2 => ?_)
  · have hf := (if_pos c2).symm.trans hf
    refine lv_aload_n C.1 C.2.1 dX5_countKnot_24 rfl (lv_at hl 0 rfl) ?_
    refine m_getr C hW ha0 flX5_24 (by decide) dX5_countKnot_25 (fun hk3 => ?_)
    refine lv_dup C.1 C.2.1 dX5_countKnot_28 rfl ?_
    refine m_geti C hW hk3 flX5_258 dX5_countKnot_29 ?_
    refine lv_iconst C.1 C.2.1 dX5_countKnot_32 ic_1 ?_
    refine lv_iadd C.1 C.2.1 dX5_countKnot_33 ?_
    refine m_puti C hW hk3 fpX5_258 dX5_countKnot_34 (fun H locs hW => ?_)
    cases hf
    exact m_vret C hW dX5_countKnot_37
  · have hf := (if_neg c2).symm.trans hf
    refine lv_aload_n C.1 C.2.1 dX5_countKnot_12 rfl (lv_at hl 0 rfl) ?_
    refine lv_iconst C.1 C.2.1 dX5_countKnot_13 ic_2 ?_
    refine lv_aload_n C.1 C.2.1 dX5_countKnot_14 rfl (lv_at hl 0 rfl) ?_
    refine m_geti C hW ha0 flX5_62 dX5_countKnot_15 ?_
    obtain ⟨q4, h5, hf⟩ := bd hf
    refine m_callV (As := [.int (2 : Int32), .int (gI S a0 7)]) (rest := []) C hW ha0 (cX5_fail_ok  ha0 h5) mlX5_93 (by decide) rfl hl.1 rfl (Nat.le_of_ble_eq_true rfl) (Nat.le_of_ble_eq_true rfl) (Nat.le_of_ble_eq_true rfl) dX5_countKnot_18 (fun H locs hW => ?_)
    refine lv_goto (tgt := 37) C.1 C.2.1 dX5_countKnot_21 rfl ?_
    cases hf
    exact m_vret C hW dX5_countKnot_37

def fX5_scanWord_132 (K97 : Nat → Int32 → MS → Option MS) (x0 : Nat) (x2 : Int32) (S : MS) : Option MS := K97 x0 (x2 + (1 : Int32)) S
def fX5_scanWord_97  : Nat → Nat → Int32 → MS → Option MS
  | 0, _, _, _ => none
  | n + 1, x0, x2, S => (if (24 : Int32) ≤ x2 then some S else (if gI S x0 5 = (2 : Int32) then (if bnd x2 (lnX (gR S x0 0)) = true then (if gI S (gR S x0 0) x2.toNatClampNeg = gI S x0 6 then fX5_scanWord_132 (fX5_scanWord_97  n) x0 x2 (pI S x0 5 ((20 : Int32) + x2)) else fX5_scanWord_132 (fX5_scanWord_97  n) x0 x2 S) else none) else some S))
def fX5_scanWord_92  (x0 : Nat) (y0 : Nat) (y1 : Int32) (S : MS) : Option MS := fX5_scanWord_97  1000 x0 (0 : Int32) (pI S y0 5 y1)
def fX5_scanWord_80  (x0 : Nat) (x1 : Int32) (S : MS) : Option MS := (if x1 ≤ (6 : Int32) then fX5_scanWord_92  x0 x0 (2 : Int32) S else fX5_scanWord_92  x0 x0 (1 : Int32) S)
def fX5_scanWord_64 (K2 : Nat → Int32 → MS → Option MS) (x0 : Nat) (x1 : Int32) (S : MS) : Option MS := K2 x0 (x1 + (1 : Int32)) (pI S x0 4 ((gI S x0 4) + (1 : Int32)))
def fX5_scanWord_2  : Nat → Nat → Int32 → MS → Option MS
  | 0, _, _, _ => none
  | n + 1, x0, x1, S => (if (gI S x0 3) ≤ (gI S x0 4) then fX5_scanWord_80  x0 x1 S else (if bnd (gI S x0 4) (lnX (gR S x0 2)) = true then (fX5_isLetter  (gI S (gR S x0 2) (gI S x0 4).toNatClampNeg) S).bind fun q10 => (if q10 = (0 : Int32) then fX5_scanWord_80  x0 x1 S else (if (6 : Int32) ≤ x1 then fX5_scanWord_64 (fX5_scanWord_2  n) x0 x1 S else (if bnd (gI S x0 4) (lnX (gR S x0 2)) = true then fX5_scanWord_64 (fX5_scanWord_2  n) x0 x1 (pI S x0 6 ((gI S x0 6) ||| ((((gI S (gR S x0 2) (gI S x0 4).toNatClampNeg) - (97 : Int32)) + (1 : Int32)) <<< (((25 : Int32) - ((5 : Int32) * x1)) &&& 31)))) else none))) else none))
def fX5_scanWord (a0 : Nat) (S : MS) : Option MS := fX5_scanWord_2  1000 a0 (0 : Int32) S
set_option maxRecDepth 100000 in
theorem kX5_scanWord_132 {p : Program} {l : Launch} {e : Env} {s : State} {m : MethodId} {av : Array Value} {below : List Frame} {meth : Method} {c : Code} {A : Nat → Prop} {G : Gv} {L : List Nat} {q : MS} {K97 : Nat → Int32 → MS → Option MS} (hK97 : ∀ (x0 : Nat) (x2 : Int32) (S : MS) (H : Heap) (locs : List Loc) (ls : Array Slot), (x0 < shX.1 ∧ shX.2.1 x0 = 5) → mW G shX L S A s H locs → lv_has ls 3 [(0, .ref (ad L x0)), (2, .int x2)] → K97 x0 x2 S = some q → W p l e (rmd (2)) s m av below meth c H locs 0 0 (MQ below (mQ G shX L q none A) av s 0 0 A) (F0 m 97 ls [])) (C : mC p s m av meth c cX5_scanWord RX5 3 none) : ∀ (x0 : Nat) (x2 : Int32) (S : MS) (H : Heap) (locs : List Loc) (ls : Array Slot), (x0 < shX.1 ∧ shX.2.1 x0 = 5) → mW G shX L S A s H locs → lv_has ls 3 [(0, .ref (ad L x0)), (2, .int x2)] → fX5_scanWord_132 K97 x0 x2 S = some q → W p l e (rmd (2)) s m av below meth c H locs 0 0 (MQ below (mQ G shX L q none A) av s 0 0 A) (F0 m 132 ls []) := by
  intro x0 x2 S H locs ls hx0 hW hl hf
  unfold fX5_scanWord_132 at hf
  refine lv_iinc (v := x2 + (1 : Int32)) (lv' := [(2, .int (x2 + (1 : Int32))), (0, .ref (ad L x0))]) C.1 C.2.1 dX5_scanWord_132 hl (k := 1) rfl (congrArg (fun z => x2 + z) ic_1) (by decide) rfl (fun ls hl => ?_)
  refine lv_goto (tgt := 97) C.1 C.2.1 dX5_scanWord_135 rfl ?_
  exact hK97 x0 (x2 + (1 : Int32)) _ _ _ _ hx0 hW (lv_sub hl [1, 0] rfl) hf

set_option maxRecDepth 100000 in
theorem kX5_scanWord_97 {p : Program} {l : Launch} {e : Env} {s : State} {m : MethodId} {av : Array Value} {below : List Frame} {meth : Method} {c : Code} {A : Nat → Prop} {G : Gv} {L : List Nat} {q : MS}  (C : mC p s m av meth c cX5_scanWord RX5 3 none) : ∀ (n : Nat) (x0 : Nat) (x2 : Int32) (S : MS) (H : Heap) (locs : List Loc) (ls : Array Slot), (x0 < shX.1 ∧ shX.2.1 x0 = 5) → mW G shX L S A s H locs → lv_has ls 3 [(0, .ref (ad L x0)), (2, .int x2)] → fX5_scanWord_97  n x0 x2 S = some q → W p l e (rmd (2)) s m av below meth c H locs 0 0 (MQ below (mQ G shX L q none A) av s 0 0 A) (F0 m 97 ls []) := by
  intro n
  induction n with
  | zero =>
    intro x0 x2 S H locs ls hx0 hW hl hf
    rw [fX5_scanWord_97] at hf
    cases hf
  | succ n ih =>
    intro x0 x2 S H locs ls hx0 hW hl hf
    rw [fX5_scanWord_97] at hf
    refine lv_iload_n C.1 C.2.1 dX5_scanWord_97 rfl (lv_at hl 1 rfl) ?_
    refine lv_bipush C.1 C.2.1 dX5_scanWord_98 bp_24 ?_
    refine lv_icmp_ge (tgt := 138) C.1 C.2.1 dX5_scanWord_100 rfl (fun c1 => ?_) (fun c1 => ?_)
    · have hf := (if_pos c1).symm.trans hf
      cases hf
      exact m_vret C hW dX5_scanWord_138
    · have hf := (if_neg c1).symm.trans hf
      refine lv_aload_n C.1 C.2.1 dX5_scanWord_103 rfl (lv_at hl 0 rfl) ?_
      refine m_geti C hW hx0 flX5_90 dX5_scanWord_104 ?_
      refine lv_iconst C.1 C.2.1 dX5_scanWord_107 ic_2 ?_
      refine lv_icmp_ne (tgt := 138) C.1 C.2.1 dX5_scanWord_108 rfl (fun c2 => ?_) (fun c2 => ?_)
      · have hf := (if_neg c2).symm.trans hf
        cases hf
        exact m_vret C hW dX5_scanWord_138
      · have hf := (if_pos c2).symm.trans hf
        refine lv_aload_n C.1 C.2.1 dX5_scanWord_111 rfl (lv_at hl 0 rfl) ?_
        refine m_getr C hW hx0 flX5_13 (by decide) dX5_scanWord_112 (fun hk3 => ?_)
        refine lv_iload_n C.1 C.2.1 dX5_scanWord_115 rfl (lv_at hl 1 rfl) ?_
        obtain ⟨hb4, hf⟩ := gd hf
        refine m_iald C hW hk3 hb4 dX5_scanWord_116 ?_
        refine lv_aload_n C.1 C.2.1 dX5_scanWord_117 rfl (lv_at hl 0 rfl) ?_
        refine m_geti C hW hx0 flX5_217 dX5_scanWord_118 ?_
        refine lv_icmp_ne (tgt := 132) C.1 C.2.1 dX5_scanWord_121 rfl (fun c5 => ?_) (fun c5 => ?_)
        · have hf := (if_neg c5).symm.trans hf
          exact kX5_scanWord_132 ih C x0 x2 _ _ _ _ hx0 hW (lv_sub hl [0, 1] rfl) hf
        · have hf := (if_pos c5).symm.trans hf
          refine lv_aload_n C.1 C.2.1 dX5_scanWord_124 rfl (lv_at hl 0 rfl) ?_
          refine lv_bipush C.1 C.2.1 dX5_scanWord_125 bp_20 ?_
          refine lv_iload_n C.1 C.2.1 dX5_scanWord_127 rfl (lv_at hl 1 rfl) ?_
          refine lv_iadd C.1 C.2.1 dX5_scanWord_128 ?_
          refine m_puti C hW hx0 fpX5_90 dX5_scanWord_129 (fun H locs hW => ?_)
          exact kX5_scanWord_132 ih C x0 x2 _ _ _ _ hx0 hW (lv_sub hl [0, 1] rfl) hf

set_option maxRecDepth 100000 in
theorem kX5_scanWord_92 {p : Program} {l : Launch} {e : Env} {s : State} {m : MethodId} {av : Array Value} {below : List Frame} {meth : Method} {c : Code} {A : Nat → Prop} {G : Gv} {L : List Nat} {q : MS}  (C : mC p s m av meth c cX5_scanWord RX5 3 none) : ∀ (x0 : Nat) (y0 : Nat) (y1 : Int32) (S : MS) (H : Heap) (locs : List Loc) (ls : Array Slot), (x0 < shX.1 ∧ shX.2.1 x0 = 5) → (y0 < shX.1 ∧ shX.2.1 y0 = 5) → mW G shX L S A s H locs → lv_has ls 3 [(0, .ref (ad L x0))] → fX5_scanWord_92  x0 y0 y1 S = some q → W p l e (rmd (2)) s m av below meth c H locs 0 0 (MQ below (mQ G shX L q none A) av s 0 0 A) (F0 m 92 ls [.int y1, .ref (ad L y0)]) := by
  intro x0 y0 y1 S H locs ls hx0 hy0 hW hl hf
  unfold fX5_scanWord_92 at hf
  refine m_puti C hW hy0 fpX5_90 dX5_scanWord_92 (fun H locs hW => ?_)
  refine lv_iconst C.1 C.2.1 dX5_scanWord_95 ic_0 ?_
  refine lv_istore_n (lv' := [(2, .int (0 : Int32)), (0, .ref (ad L x0))]) C.1 C.2.1 dX5_scanWord_96 rfl hl (by decide) rfl (fun ls hl => ?_)
  exact kX5_scanWord_97  C 1000 x0 (0 : Int32) _ _ _ _ hx0 hW (lv_sub hl [1, 0] rfl) hf

set_option maxRecDepth 100000 in
theorem kX5_scanWord_80 {p : Program} {l : Launch} {e : Env} {s : State} {m : MethodId} {av : Array Value} {below : List Frame} {meth : Method} {c : Code} {A : Nat → Prop} {G : Gv} {L : List Nat} {q : MS}  (C : mC p s m av meth c cX5_scanWord RX5 3 none) : ∀ (x0 : Nat) (x1 : Int32) (S : MS) (H : Heap) (locs : List Loc) (ls : Array Slot), (x0 < shX.1 ∧ shX.2.1 x0 = 5) → mW G shX L S A s H locs → lv_has ls 3 [(0, .ref (ad L x0)), (1, .int x1)] → fX5_scanWord_80  x0 x1 S = some q → W p l e (rmd (2)) s m av below meth c H locs 0 0 (MQ below (mQ G shX L q none A) av s 0 0 A) (F0 m 80 ls []) := by
  intro x0 x1 S H locs ls hx0 hW hl hf
  unfold fX5_scanWord_80 at hf
  refine lv_aload_n C.1 C.2.1 dX5_scanWord_80 rfl (lv_at hl 0 rfl) ?_
  refine lv_iload_n C.1 C.2.1 dX5_scanWord_81 rfl (lv_at hl 1 rfl) ?_
  refine lv_bipush C.1 C.2.1 dX5_scanWord_82 bp_6 ?_
  refine lv_icmp_le (tgt := 91) C.1 C.2.1 dX5_scanWord_84 rfl (fun c6 => ?_) (fun c6 => ?_)
  · have hf := (if_pos c6).symm.trans hf
    refine lv_iconst C.1 C.2.1 dX5_scanWord_91 ic_2 ?_
    exact kX5_scanWord_92  C x0 x0 (2 : Int32) _ _ _ _ hx0 hx0 hW (lv_sub hl [0] rfl) hf
  · have hf := (if_neg c6).symm.trans hf
    refine lv_iconst C.1 C.2.1 dX5_scanWord_87 ic_1 ?_
    refine lv_goto (tgt := 92) C.1 C.2.1 dX5_scanWord_88 rfl ?_
    exact kX5_scanWord_92  C x0 x0 (1 : Int32) _ _ _ _ hx0 hx0 hW (lv_sub hl [0] rfl) hf

set_option maxRecDepth 100000 in
theorem kX5_scanWord_64 {p : Program} {l : Launch} {e : Env} {s : State} {m : MethodId} {av : Array Value} {below : List Frame} {meth : Method} {c : Code} {A : Nat → Prop} {G : Gv} {L : List Nat} {q : MS} {K2 : Nat → Int32 → MS → Option MS} (hK2 : ∀ (x0 : Nat) (x1 : Int32) (S : MS) (H : Heap) (locs : List Loc) (ls : Array Slot), (x0 < shX.1 ∧ shX.2.1 x0 = 5) → mW G shX L S A s H locs → lv_has ls 3 [(0, .ref (ad L x0)), (1, .int x1)] → K2 x0 x1 S = some q → W p l e (rmd (2)) s m av below meth c H locs 0 0 (MQ below (mQ G shX L q none A) av s 0 0 A) (F0 m 2 ls [])) (C : mC p s m av meth c cX5_scanWord RX5 3 none) : ∀ (x0 : Nat) (x1 : Int32) (S : MS) (H : Heap) (locs : List Loc) (ls : Array Slot), (x0 < shX.1 ∧ shX.2.1 x0 = 5) → mW G shX L S A s H locs → lv_has ls 3 [(0, .ref (ad L x0)), (1, .int x1)] → fX5_scanWord_64 K2 x0 x1 S = some q → W p l e (rmd (2)) s m av below meth c H locs 0 0 (MQ below (mQ G shX L q none A) av s 0 0 A) (F0 m 64 ls []) := by
  intro x0 x1 S H locs ls hx0 hW hl hf
  unfold fX5_scanWord_64 at hf
  refine lv_iinc (v := x1 + (1 : Int32)) (lv' := [(1, .int (x1 + (1 : Int32))), (0, .ref (ad L x0))]) C.1 C.2.1 dX5_scanWord_64 hl (k := 1) rfl (congrArg (fun z => x1 + z) ic_1) (by decide) rfl (fun ls hl => ?_)
  refine lv_aload_n C.1 C.2.1 dX5_scanWord_67 rfl (lv_at hl 1 rfl) ?_
  refine lv_dup C.1 C.2.1 dX5_scanWord_68 rfl ?_
  refine m_geti C hW hx0 flX5_59 dX5_scanWord_69 ?_
  refine lv_iconst C.1 C.2.1 dX5_scanWord_72 ic_1 ?_
  refine lv_iadd C.1 C.2.1 dX5_scanWord_73 ?_
  refine m_puti C hW hx0 fpX5_59 dX5_scanWord_74 (fun H locs hW => ?_)
  refine lv_goto (tgt := 2) C.1 C.2.1 dX5_scanWord_77 rfl ?_
  exact hK2 x0 (x1 + (1 : Int32)) _ _ _ _ hx0 hW (lv_sub hl [1, 0] rfl) hf

set_option maxRecDepth 100000 in
theorem kX5_scanWord_2 {p : Program} {l : Launch} {e : Env} {s : State} {m : MethodId} {av : Array Value} {below : List Frame} {meth : Method} {c : Code} {A : Nat → Prop} {G : Gv} {L : List Nat} {q : MS}  (C : mC p s m av meth c cX5_scanWord RX5 3 none) : ∀ (n : Nat) (x0 : Nat) (x1 : Int32) (S : MS) (H : Heap) (locs : List Loc) (ls : Array Slot), (x0 < shX.1 ∧ shX.2.1 x0 = 5) → mW G shX L S A s H locs → lv_has ls 3 [(0, .ref (ad L x0)), (1, .int x1)] → fX5_scanWord_2  n x0 x1 S = some q → W p l e (rmd (2)) s m av below meth c H locs 0 0 (MQ below (mQ G shX L q none A) av s 0 0 A) (F0 m 2 ls []) := by
  intro n
  induction n with
  | zero =>
    intro x0 x1 S H locs ls hx0 hW hl hf
    rw [fX5_scanWord_2] at hf
    cases hf
  | succ n ih =>
    intro x0 x1 S H locs ls hx0 hW hl hf
    rw [fX5_scanWord_2] at hf
    refine lv_aload_n C.1 C.2.1 dX5_scanWord_2 rfl (lv_at hl 0 rfl) ?_
    refine m_geti C hW hx0 flX5_59 dX5_scanWord_3 ?_
    refine lv_aload_n C.1 C.2.1 dX5_scanWord_6 rfl (lv_at hl 0 rfl) ?_
    refine m_geti C hW hx0 flX5_56 dX5_scanWord_7 ?_
    refine lv_icmp_ge (tgt := 80) C.1 C.2.1 dX5_scanWord_10 rfl (fun c7 => ?_) (fun c7 => ?_)
    · have hf := (if_pos c7).symm.trans hf
      exact kX5_scanWord_80  C x0 x1 _ _ _ _ hx0 hW (lv_sub hl [0, 1] rfl) hf
    · have hf := (if_neg c7).symm.trans hf
      refine lv_aload_n C.1 C.2.1 dX5_scanWord_13 rfl (lv_at hl 0 rfl) ?_
      refine m_getr C hW hx0 flX5_20 (by decide) dX5_scanWord_14 (fun hk8 => ?_)
      refine lv_aload_n C.1 C.2.1 dX5_scanWord_17 rfl (lv_at hl 0 rfl) ?_
      refine m_geti C hW hx0 flX5_59 dX5_scanWord_18 ?_
      obtain ⟨hb9, hf⟩ := gd hf
      refine m_bald C hW hk8 hb9 dX5_scanWord_21 ?_
      obtain ⟨q10, h11, hf⟩ := bd hf
      refine m_callS (As := [.int (gI S (gR S x0 2) (gI S x0 4).toNatClampNeg)]) (rest := []) C hW (cX5_isLetter_ok   h11) mlX5_261 rfl hl.1 rfl (Nat.le_of_ble_eq_true rfl) (Nat.le_of_ble_eq_true rfl) (Nat.le_of_ble_eq_true rfl) dX5_scanWord_22 (fun H locs hW => ?_)
      refine lv_if_eq (tgt := 80) C.1 C.2.1 dX5_scanWord_25 rfl (fun c12 => ?_) (fun c12 => ?_)
      · have hf := (if_pos c12).symm.trans hf
        exact kX5_scanWord_80  C x0 x1 _ _ _ _ hx0 hW (lv_sub hl [0, 1] rfl) hf
      · have hf := (if_neg c12).symm.trans hf
        refine lv_iload_n C.1 C.2.1 dX5_scanWord_28 rfl (lv_at hl 1 rfl) ?_
        refine lv_bipush C.1 C.2.1 dX5_scanWord_29 bp_6 ?_
        refine lv_icmp_ge (tgt := 64) C.1 C.2.1 dX5_scanWord_31 rfl (fun c13 => ?_) (fun c13 => ?_)
        · have hf := (if_pos c13).symm.trans hf
          exact kX5_scanWord_64 ih C x0 x1 _ _ _ _ hx0 hW (lv_sub hl [0, 1] rfl) hf
        · have hf := (if_neg c13).symm.trans hf
          refine lv_aload_n C.1 C.2.1 dX5_scanWord_34 rfl (lv_at hl 0 rfl) ?_
          refine lv_dup C.1 C.2.1 dX5_scanWord_35 rfl ?_
          refine m_geti C hW hx0 flX5_217 dX5_scanWord_36 ?_
          refine lv_aload_n C.1 C.2.1 dX5_scanWord_39 rfl (lv_at hl 0 rfl) ?_
          refine m_getr C hW hx0 flX5_20 (by decide) dX5_scanWord_40 (fun hk14 => ?_)
          refine lv_aload_n C.1 C.2.1 dX5_scanWord_43 rfl (lv_at hl 0 rfl) ?_
          refine m_geti C hW hx0 flX5_59 dX5_scanWord_44 ?_
          obtain ⟨hb15, hf⟩ := gd hf
          refine m_bald C hW hk14 hb15 dX5_scanWord_47 ?_
          refine lv_bipush C.1 C.2.1 dX5_scanWord_48 bp_97 ?_
          refine lv_isub C.1 C.2.1 dX5_scanWord_50 ?_
          refine lv_iconst C.1 C.2.1 dX5_scanWord_51 ic_1 ?_
          refine lv_iadd C.1 C.2.1 dX5_scanWord_52 ?_
          refine lv_bipush C.1 C.2.1 dX5_scanWord_53 bp_25 ?_
          refine lv_iconst C.1 C.2.1 dX5_scanWord_55 ic_5 ?_
          refine lv_iload_n C.1 C.2.1 dX5_scanWord_56 rfl (lv_at hl 1 rfl) ?_
          refine lv_imul C.1 C.2.1 dX5_scanWord_57 ?_
          refine lv_isub C.1 C.2.1 dX5_scanWord_58 ?_
          refine lv_ishl C.1 C.2.1 dX5_scanWord_59 ?_
          refine lv_ior C.1 C.2.1 dX5_scanWord_60 ?_
          refine m_puti C hW hx0 fpX5_217 dX5_scanWord_61 (fun H locs hW => ?_)
          exact kX5_scanWord_64 ih C x0 x1 _ _ _ _ hx0 hW (lv_sub hl [0, 1] rfl) hf

set_option maxRecDepth 100000 in
theorem cX5_scanWord_ok {l : Launch} {G : Gv} {L : List Nat} {S : MS} {a0 : Nat} {q : MS} (ha0 : a0 < shX.1 ∧ shX.2.1 a0 = 5) (hf : fX5_scanWord a0 S = some q) : Mt l yX5_scanWord cX5_scanWord 3 none (2) G shX L S [.ref (ad L a0)] none q := by
  refine m_enter (lv := [(0, .ref (ad L a0))]) (plainFor_of_name (by decide)) (Nat.le_of_ble_eq_true rfl) rfl ?_
  intro p e s m below meth c A ls C hW hl
  unfold fX5_scanWord at hf
  refine lv_iconst C.1 C.2.1 dX5_scanWord_0 ic_0 ?_
  refine lv_istore_n (lv' := [(1, .int (0 : Int32)), (0, .ref (ad L a0))]) C.1 C.2.1 dX5_scanWord_1 rfl hl (by decide) rfl (fun ls hl => ?_)
  exact kX5_scanWord_2  C 1000 a0 (0 : Int32) _ _ _ _ ha0 hW (lv_sub hl [1, 0] rfl) hf

def fX5_scanNumber_61 (K5 : Nat → MS → Option MS) (x0 : Nat) (S : MS) : Option MS := K5 x0 (pI S x0 4 ((gI S x0 4) + (1 : Int32)))
def fX5_scanNumber_5  : Nat → Nat → MS → Option MS
  | 0, _, _ => none
  | n + 1, x0, S => (if (gI S x0 3) ≤ (gI S x0 4) then some S else (if bnd (gI S x0 4) (lnX (gR S x0 2)) = true then (fX5_isDigit  (gI S (gR S x0 2) (gI S x0 4).toNatClampNeg) S).bind fun q4 => (if q4 = (0 : Int32) then some S else (if bnd (gI S x0 4) (lnX (gR S x0 2)) = true then fX5_scanNumber_61 (fX5_scanNumber_5  n) x0 (pI S x0 6 (if ((((gI S x0 6) * (10 : Int32)) + (gI S (gR S x0 2) (gI S x0 4).toNatClampNeg)) - (48 : Int32)) < (1000000 : Int32) then ((((gI S x0 6) * (10 : Int32)) + (gI S (gR S x0 2) (gI S x0 4).toNatClampNeg)) - (48 : Int32)) else (1000000 : Int32))) else none)) else none))
def fX5_scanNumber (a0 : Nat) (S : MS) : Option MS := fX5_scanNumber_5  1000 a0 (pI S a0 5 (3 : Int32))
set_option maxRecDepth 100000 in
theorem kX5_scanNumber_61 {p : Program} {l : Launch} {e : Env} {s : State} {m : MethodId} {av : Array Value} {below : List Frame} {meth : Method} {c : Code} {A : Nat → Prop} {G : Gv} {L : List Nat} {q : MS} {K5 : Nat → MS → Option MS} (hK5 : ∀ (x0 : Nat) (S : MS) (H : Heap) (locs : List Loc) (ls : Array Slot), (x0 < shX.1 ∧ shX.2.1 x0 = 5) → mW G shX L S A s H locs → lv_has ls 1 [(0, .ref (ad L x0))] → K5 x0 S = some q → W p l e (rmd (2)) s m av below meth c H locs 0 0 (MQ below (mQ G shX L q none A) av s 0 0 A) (F0 m 5 ls [])) (C : mC p s m av meth c cX5_scanNumber RX5 1 none) : ∀ (x0 : Nat) (S : MS) (H : Heap) (locs : List Loc) (ls : Array Slot), (x0 < shX.1 ∧ shX.2.1 x0 = 5) → mW G shX L S A s H locs → lv_has ls 1 [(0, .ref (ad L x0))] → fX5_scanNumber_61 K5 x0 S = some q → W p l e (rmd (2)) s m av below meth c H locs 0 0 (MQ below (mQ G shX L q none A) av s 0 0 A) (F0 m 61 ls []) := by
  intro x0 S H locs ls hx0 hW hl hf
  unfold fX5_scanNumber_61 at hf
  refine lv_aload_n C.1 C.2.1 dX5_scanNumber_61 rfl (lv_at hl 0 rfl) ?_
  refine lv_dup C.1 C.2.1 dX5_scanNumber_62 rfl ?_
  refine m_geti C hW hx0 flX5_59 dX5_scanNumber_63 ?_
  refine lv_iconst C.1 C.2.1 dX5_scanNumber_66 ic_1 ?_
  refine lv_iadd C.1 C.2.1 dX5_scanNumber_67 ?_
  refine m_puti C hW hx0 fpX5_59 dX5_scanNumber_68 (fun H locs hW => ?_)
  refine lv_goto (tgt := 5) C.1 C.2.1 dX5_scanNumber_71 rfl ?_
  exact hK5 x0 _ _ _ _ hx0 hW (lv_sub hl [0] rfl) hf

set_option maxRecDepth 100000 in
theorem kX5_scanNumber_5 {p : Program} {l : Launch} {e : Env} {s : State} {m : MethodId} {av : Array Value} {below : List Frame} {meth : Method} {c : Code} {A : Nat → Prop} {G : Gv} {L : List Nat} {q : MS}  (C : mC p s m av meth c cX5_scanNumber RX5 1 none) : ∀ (n : Nat) (x0 : Nat) (S : MS) (H : Heap) (locs : List Loc) (ls : Array Slot), (x0 < shX.1 ∧ shX.2.1 x0 = 5) → mW G shX L S A s H locs → lv_has ls 1 [(0, .ref (ad L x0))] → fX5_scanNumber_5  n x0 S = some q → W p l e (rmd (2)) s m av below meth c H locs 0 0 (MQ below (mQ G shX L q none A) av s 0 0 A) (F0 m 5 ls []) := by
  intro n
  induction n with
  | zero =>
    intro x0 S H locs ls hx0 hW hl hf
    rw [fX5_scanNumber_5] at hf
    cases hf
  | succ n ih =>
    intro x0 S H locs ls hx0 hW hl hf
    rw [fX5_scanNumber_5] at hf
    refine lv_aload_n C.1 C.2.1 dX5_scanNumber_5 rfl (lv_at hl 0 rfl) ?_
    refine m_geti C hW hx0 flX5_59 dX5_scanNumber_6 ?_
    refine lv_aload_n C.1 C.2.1 dX5_scanNumber_9 rfl (lv_at hl 0 rfl) ?_
    refine m_geti C hW hx0 flX5_56 dX5_scanNumber_10 ?_
    refine lv_icmp_ge (tgt := 74) C.1 C.2.1 dX5_scanNumber_13 rfl (fun c1 => ?_) (fun c1 => ?_)
    · have hf := (if_pos c1).symm.trans hf
      cases hf
      exact m_vret C hW dX5_scanNumber_74
    · have hf := (if_neg c1).symm.trans hf
      refine lv_aload_n C.1 C.2.1 dX5_scanNumber_16 rfl (lv_at hl 0 rfl) ?_
      refine m_getr C hW hx0 flX5_20 (by decide) dX5_scanNumber_17 (fun hk2 => ?_)
      refine lv_aload_n C.1 C.2.1 dX5_scanNumber_20 rfl (lv_at hl 0 rfl) ?_
      refine m_geti C hW hx0 flX5_59 dX5_scanNumber_21 ?_
      obtain ⟨hb3, hf⟩ := gd hf
      refine m_bald C hW hk2 hb3 dX5_scanNumber_24 ?_
      obtain ⟨q4, h5, hf⟩ := bd hf
      refine m_callS (As := [.int (gI S (gR S x0 2) (gI S x0 4).toNatClampNeg)]) (rest := []) C hW (cX5_isDigit_ok   h5) mlX5_268 rfl hl.1 rfl (Nat.le_of_ble_eq_true rfl) (Nat.le_of_ble_eq_true rfl) (Nat.le_of_ble_eq_true rfl) dX5_scanNumber_25 (fun H locs hW => ?_)
      refine lv_if_eq (tgt := 74) C.1 C.2.1 dX5_scanNumber_28 rfl (fun c6 => ?_) (fun c6 => ?_)
      · have hf := (if_pos c6).symm.trans hf
        cases hf
        exact m_vret C hW dX5_scanNumber_74
      · have hf := (if_neg c6).symm.trans hf
        refine lv_aload_n C.1 C.2.1 dX5_scanNumber_31 rfl (lv_at hl 0 rfl) ?_
        refine lv_ldcw C.1 C.2.1 C.2.2.2.1 (C.2.2.2.2.1 _ kw_717) dX5_scanNumber_32 ?_
        refine lv_aload_n C.1 C.2.1 dX5_scanNumber_35 rfl (lv_at hl 0 rfl) ?_
        refine m_geti C hW hx0 flX5_217 dX5_scanNumber_36 ?_
        refine lv_bipush C.1 C.2.1 dX5_scanNumber_39 bp_10 ?_
        refine lv_imul C.1 C.2.1 dX5_scanNumber_41 ?_
        refine lv_aload_n C.1 C.2.1 dX5_scanNumber_42 rfl (lv_at hl 0 rfl) ?_
        refine m_getr C hW hx0 flX5_20 (by decide) dX5_scanNumber_43 (fun hk7 => ?_)
        refine lv_aload_n C.1 C.2.1 dX5_scanNumber_46 rfl (lv_at hl 0 rfl) ?_
        refine m_geti C hW hx0 flX5_59 dX5_scanNumber_47 ?_
        obtain ⟨hb8, hf⟩ := gd hf
        refine m_bald C hW hk7 hb8 dX5_scanNumber_50 ?_
        refine lv_iadd C.1 C.2.1 dX5_scanNumber_51 ?_
        refine lv_bipush C.1 C.2.1 dX5_scanNumber_52 bp_48 ?_
        refine lv_isub C.1 C.2.1 dX5_scanNumber_54 ?_
        refine va_mmin C.1 C.2.1 (C.2.2.1.trans hl.1.symm) C.2.2.2.1 (C.2.2.2.2.1 _ kw_695) (C.2.2.2.2.1 _ kw_696) (C.2.2.2.2.1 _ kw_135) (C.2.2.2.2.1 _ kw_697) (Nat.le_of_ble_eq_true rfl) (Nat.le_of_ble_eq_true rfl) (Nat.le_refl 0) (Nat.le_refl 0) dX5_scanNumber_55 ?_
        refine m_puti C hW hx0 fpX5_217 dX5_scanNumber_58 (fun H locs hW => ?_)
        exact kX5_scanNumber_61 ih C x0 _ _ _ _ hx0 hW (lv_sub hl [0] rfl) hf

set_option maxRecDepth 100000 in
theorem cX5_scanNumber_ok {l : Launch} {G : Gv} {L : List Nat} {S : MS} {a0 : Nat} {q : MS} (ha0 : a0 < shX.1 ∧ shX.2.1 a0 = 5) (hf : fX5_scanNumber a0 S = some q) : Mt l yX5_scanNumber cX5_scanNumber 1 none (2) G shX L S [.ref (ad L a0)] none q := by
  refine m_enter (lv := [(0, .ref (ad L a0))]) (plainFor_of_name (by decide)) (Nat.le_of_ble_eq_true rfl) rfl ?_
  intro p e s m below meth c A ls C hW hl
  unfold fX5_scanNumber at hf
  refine lv_aload_n C.1 C.2.1 dX5_scanNumber_0 rfl (lv_at hl 0 rfl) ?_
  refine lv_iconst C.1 C.2.1 dX5_scanNumber_1 ic_3 ?_
  refine m_puti C hW ha0 fpX5_90 dX5_scanNumber_2 (fun H locs hW => ?_)
  exact kX5_scanNumber_5  C 1000 a0 _ _ _ _ ha0 hW (lv_sub hl [0] rfl) hf

def fX7_find_2  : Nat → Nat → Int32 → Int32 → Int32 → MS → Option Int32
  | 0, _, _, _, _, _ => none
  | n + 1, x0, x1, x2, x3, S => (if (gI S x0 3) ≤ x3 then some (-1 : Int32) else (fX7_get  x0 x3 x1 S).bind fun q2 => (if q2 = x2 then some x3 else (fX7_find_2  n) x0 x1 x2 (x3 + (1 : Int32)) S))
def fX7_find (a0 : Nat) (a1 : Int32) (a2 : Int32) (S : MS) : Option Int32 := fX7_find_2  1000 a0 a1 a2 (0 : Int32) S
set_option maxRecDepth 100000 in
theorem kX7_find_2 {p : Program} {l : Launch} {e : Env} {s : State} {m : MethodId} {av : Array Value} {below : List Frame} {meth : Method} {c : Code} {A : Nat → Prop} {G : Gv} {L : List Nat} {S : MS} {q : Int32}  (C : mC p s m av meth c cX7_find RX7 4 (some .int)) : ∀ (n : Nat) (x0 : Nat) (x1 : Int32) (x2 : Int32) (x3 : Int32) (H : Heap) (locs : List Loc) (ls : Array Slot), (x0 < shX.1 ∧ shX.2.1 x0 = 7) → mW G shX L S A s H locs → lv_has ls 4 [(0, .ref (ad L x0)), (1, .int x1), (2, .int x2), (3, .int x3)] → fX7_find_2  n x0 x1 x2 x3 S = some q → W p l e (rmd (2)) s m av below meth c H locs 0 0 (MQ below (mQ G shX L S (some (.int q)) A) av s 0 0 A) (F0 m 2 ls []) := by
  intro n
  induction n with
  | zero =>
    intro x0 x1 x2 x3 H locs ls hx0 hW hl hf
    rw [fX7_find_2] at hf
    cases hf
  | succ n ih =>
    intro x0 x1 x2 x3 H locs ls hx0 hW hl hf
    rw [fX7_find_2] at hf
    refine lv_iload_n C.1 C.2.1 dX7_find_2 rfl (lv_at hl 3 rfl) ?_
    refine lv_aload_n C.1 C.2.1 dX7_find_3 rfl (lv_at hl 0 rfl) ?_
    refine m_geti C hW hx0 flX7_22 dX7_find_4 ?_
    refine lv_icmp_ge (tgt := 28) C.1 C.2.1 dX7_find_7 rfl (fun c1 => ?_) (fun c1 => ?_)
    · have hf := (if_pos c1).symm.trans hf
      refine lv_iconst C.1 C.2.1 dX7_find_28 ic_m1 ?_
      cases hf
      exact m_iret C hW dX7_find_29
    · have hf := (if_neg c1).symm.trans hf
      refine lv_aload_n C.1 C.2.1 dX7_find_10 rfl (lv_at hl 0 rfl) ?_
      refine lv_iload_n C.1 C.2.1 dX7_find_11 rfl (lv_at hl 3 rfl) ?_
      refine lv_iload_n C.1 C.2.1 dX7_find_12 rfl (lv_at hl 1 rfl) ?_
      obtain ⟨q2, h3, hf⟩ := bd hf
      refine m_callV (As := [.int x3, .int x1]) (rest := []) C hW hx0 (cX7_get_ok  hx0 h3) mlX7_25 (by decide) rfl hl.1 rfl (Nat.le_of_ble_eq_true rfl) (Nat.le_of_ble_eq_true rfl) (Nat.le_of_ble_eq_true rfl) dX7_find_13 (fun H locs hW => ?_)
      refine lv_iload_n C.1 C.2.1 dX7_find_16 rfl (lv_at hl 2 rfl) ?_
      refine lv_icmp_ne (tgt := 22) C.1 C.2.1 dX7_find_17 rfl (fun c4 => ?_) (fun c4 => ?_)
      · have hf := (if_neg c4).symm.trans hf
        refine lv_iinc (v := x3 + (1 : Int32)) (lv' := [(3, .int (x3 + (1 : Int32))), (0, .ref (ad L x0)), (1, .int x1), (2, .int x2)]) C.1 C.2.1 dX7_find_22 hl (k := 3) rfl (congrArg (fun z => x3 + z) ic_1) (by decide) rfl (fun ls hl => ?_)
        refine lv_goto (tgt := 2) C.1 C.2.1 dX7_find_25 rfl ?_
        exact ih x0 x1 x2 (x3 + (1 : Int32)) _ _ _ hx0 hW (lv_sub hl [1, 2, 3, 0] rfl) hf
      · have hf := (if_pos c4).symm.trans hf
        refine lv_iload_n C.1 C.2.1 dX7_find_20 rfl (lv_at hl 3 rfl) ?_
        cases hf
        exact m_iret C hW dX7_find_21

set_option maxRecDepth 100000 in
theorem cX7_find_ok {l : Launch} {G : Gv} {L : List Nat} {S : MS} {a0 : Nat} {a1 : Int32} {a2 : Int32} {q : Int32} (ha0 : a0 < shX.1 ∧ shX.2.1 a0 = 7) (hf : fX7_find a0 a1 a2 S = some q) : Mt l yX7_find cX7_find 4 (some .int) (2) G shX L S [.ref (ad L a0), .int a1, .int a2] (some (.int q)) S := by
  refine m_enter (lv := [(0, .ref (ad L a0)), (1, .int a1), (2, .int a2)]) (plainFor_of_name (by decide)) (Nat.le_of_ble_eq_true rfl) rfl ?_
  intro p e s m below meth c A ls C hW hl
  unfold fX7_find at hf
  refine lv_iconst C.1 C.2.1 dX7_find_0 ic_0 ?_
  refine lv_istore_n (lv' := [(3, .int (0 : Int32)), (0, .ref (ad L a0)), (1, .int a1), (2, .int a2)]) C.1 C.2.1 dX7_find_1 rfl hl (by decide) rfl (fun ls hl => ?_)
  exact kX7_find_2  C 1000 a0 a1 a2 (0 : Int32) _ _ _ ha0 hW (lv_sub hl [1, 2, 3, 0] rfl) hf

def fX8_clean_108  (x0 : Nat) (S : MS) : Option MS := some (pI (pI S x0 14 (0 : Int32)) x0 15 (0 : Int32))
def fX8_clean_58  : Nat → Nat → Int32 → MS → Option MS
  | 0, _, _, _ => none
  | n + 1, x0, x1, S => (if (3 : Int32) ≤ x1 then fX8_clean_108  x0 (pI (pI (pI (pI (pI (pI S x0 8 (5 : Int32)) x0 9 (5 : Int32)) x0 10 (0 : Int32)) x0 11 (0 : Int32)) x0 12 (0 : Int32)) x0 13 (0 : Int32)) else (if bnd x1 (lnX (gR S x0 7)) = true then (fX1_empty  (gR S (gR S x0 7) x1.toNatClampNeg) S).bind fun q5 => (fX8_clean_58  n) x0 (x1 + (1 : Int32)) q5 else none))
def fX8_clean_2  : Nat → Nat → Int32 → MS → Option MS
  | 0, _, _, _ => none
  | n + 1, x0, x1, S => (if (64 : Int32) ≤ x1 then (fX7_empty  (gR S x0 2) S).bind fun q9 => (fX7_empty  (gR q9 x0 3) q9).bind fun q12 => (fX7_empty  (gR q12 x0 4) q12).bind fun q15 => (fX7_empty  (gR q15 x0 5) q15).bind fun q18 => (fX7_empty  (gR q18 x0 6) q18).bind fun q21 => fX8_clean_58  1000 x0 (0 : Int32) q21 else (if bnd x1 (lnX (gR S x0 0)) = true then (fX8_clean_2  n) x0 (x1 + (1 : Int32)) (pI S (gR S x0 0) x1.toNatClampNeg (vp_nar .boolean (0 : Int32))) else none))
def fX8_clean (a0 : Nat) (S : MS) : Option MS := fX8_clean_2  1000 a0 (0 : Int32) S
set_option maxRecDepth 100000 in
theorem kX8_clean_108 {p : Program} {l : Launch} {e : Env} {s : State} {m : MethodId} {av : Array Value} {below : List Frame} {meth : Method} {c : Code} {A : Nat → Prop} {G : Gv} {L : List Nat} {q : MS}  (C : mC p s m av meth c cX8_clean RX8 2 none) : ∀ (x0 : Nat) (S : MS) (H : Heap) (locs : List Loc) (ls : Array Slot), (x0 < shX.1 ∧ shX.2.1 x0 = 8) → mW G shX L S A s H locs → lv_has ls 2 [(0, .ref (ad L x0))] → fX8_clean_108  x0 S = some q → W p l e (rmd (2)) s m av below meth c H locs 0 0 (MQ below (mQ G shX L q none A) av s 0 0 A) (F0 m 108 ls []) := by
  intro x0 S H locs ls hx0 hW hl hf
  unfold fX8_clean_108 at hf
  refine lv_aload_n C.1 C.2.1 dX8_clean_108 rfl (lv_at hl 0 rfl) ?_
  refine lv_iconst C.1 C.2.1 dX8_clean_109 ic_0 ?_
  refine m_puti C hW hx0 fpX8_70 dX8_clean_110 (fun H locs hW => ?_)
  refine lv_aload_n C.1 C.2.1 dX8_clean_113 rfl (lv_at hl 0 rfl) ?_
  refine lv_iconst C.1 C.2.1 dX8_clean_114 ic_0 ?_
  refine m_puti C hW hx0 fpX8_73 dX8_clean_115 (fun H locs hW => ?_)
  cases hf
  exact m_vret C hW dX8_clean_118

set_option maxRecDepth 100000 in
theorem kX8_clean_58 {p : Program} {l : Launch} {e : Env} {s : State} {m : MethodId} {av : Array Value} {below : List Frame} {meth : Method} {c : Code} {A : Nat → Prop} {G : Gv} {L : List Nat} {q : MS}  (C : mC p s m av meth c cX8_clean RX8 2 none) : ∀ (n : Nat) (x0 : Nat) (x1 : Int32) (S : MS) (H : Heap) (locs : List Loc) (ls : Array Slot), (x0 < shX.1 ∧ shX.2.1 x0 = 8) → mW G shX L S A s H locs → lv_has ls 2 [(0, .ref (ad L x0)), (1, .int x1)] → fX8_clean_58  n x0 x1 S = some q → W p l e (rmd (2)) s m av below meth c H locs 0 0 (MQ below (mQ G shX L q none A) av s 0 0 A) (F0 m 58 ls []) := by
  intro n
  induction n with
  | zero =>
    intro x0 x1 S H locs ls hx0 hW hl hf
    rw [fX8_clean_58] at hf
    cases hf
  | succ n ih =>
    intro x0 x1 S H locs ls hx0 hW hl hf
    rw [fX8_clean_58] at hf
    refine lv_iload_n C.1 C.2.1 dX8_clean_58 rfl (lv_at hl 1 rfl) ?_
    refine lv_iconst C.1 C.2.1 dX8_clean_59 ic_3 ?_
    refine lv_icmp_ge (tgt := 78) C.1 C.2.1 dX8_clean_60 rfl (fun c1 => ?_) (fun c1 => ?_)
    · have hf := (if_pos c1).symm.trans hf
      refine lv_aload_n C.1 C.2.1 dX8_clean_78 rfl (lv_at hl 0 rfl) ?_
      refine lv_iconst C.1 C.2.1 dX8_clean_79 ic_5 ?_
      refine m_puti C hW hx0 fpX8_51 dX8_clean_80 (fun H locs hW => ?_)
      refine lv_aload_n C.1 C.2.1 dX8_clean_83 rfl (lv_at hl 0 rfl) ?_
      refine lv_iconst C.1 C.2.1 dX8_clean_84 ic_5 ?_
      refine m_puti C hW hx0 fpX8_55 dX8_clean_85 (fun H locs hW => ?_)
      refine lv_aload_n C.1 C.2.1 dX8_clean_88 rfl (lv_at hl 0 rfl) ?_
      refine lv_iconst C.1 C.2.1 dX8_clean_89 ic_0 ?_
      refine m_puti C hW hx0 fpX8_58 dX8_clean_90 (fun H locs hW => ?_)
      refine lv_aload_n C.1 C.2.1 dX8_clean_93 rfl (lv_at hl 0 rfl) ?_
      refine lv_iconst C.1 C.2.1 dX8_clean_94 ic_0 ?_
      refine m_puti C hW hx0 fpX8_61 dX8_clean_95 (fun H locs hW => ?_)
      refine lv_aload_n C.1 C.2.1 dX8_clean_98 rfl (lv_at hl 0 rfl) ?_
      refine lv_iconst C.1 C.2.1 dX8_clean_99 ic_0 ?_
      refine m_puti C hW hx0 fpX8_64 dX8_clean_100 (fun H locs hW => ?_)
      refine lv_aload_n C.1 C.2.1 dX8_clean_103 rfl (lv_at hl 0 rfl) ?_
      refine lv_iconst C.1 C.2.1 dX8_clean_104 ic_0 ?_
      refine m_puti C hW hx0 fpX8_67 dX8_clean_105 (fun H locs hW => ?_)
      exact kX8_clean_108  C x0 _ _ _ _ hx0 hW (lv_sub hl [0] rfl) hf
    · have hf := (if_neg c1).symm.trans hf
      refine lv_aload_n C.1 C.2.1 dX8_clean_63 rfl (lv_at hl 0 rfl) ?_
      refine m_getr C hW hx0 flX8_43 (by decide) dX8_clean_64 (fun hk2 => ?_)
      refine lv_iload_n C.1 C.2.1 dX8_clean_67 rfl (lv_at hl 1 rfl) ?_
      obtain ⟨hb3, hf⟩ := gd hf
      refine m_aald (kt := 1) C hW hk2 (by decide) hb3 dX8_clean_68 (fun hk4 => ?_)
      obtain ⟨q5, h6, hf⟩ := bd hf
      refine m_callV (As := []) (rest := []) C hW hk4 (cX1_empty_ok  hk4 h6) mlX8_50 (by decide) rfl hl.1 rfl (Nat.le_of_ble_eq_true rfl) (Nat.le_of_ble_eq_true rfl) (Nat.le_of_ble_eq_true rfl) dX8_clean_69 (fun H locs hW => ?_)
      refine lv_iinc (v := x1 + (1 : Int32)) (lv' := [(1, .int (x1 + (1 : Int32))), (0, .ref (ad L x0))]) C.1 C.2.1 dX8_clean_72 hl (k := 1) rfl (congrArg (fun z => x1 + z) ic_1) (by decide) rfl (fun ls hl => ?_)
      refine lv_goto (tgt := 58) C.1 C.2.1 dX8_clean_75 rfl ?_
      exact ih x0 (x1 + (1 : Int32)) _ _ _ _ hx0 hW (lv_sub hl [1, 0] rfl) hf

set_option maxRecDepth 100000 in
theorem kX8_clean_2 {p : Program} {l : Launch} {e : Env} {s : State} {m : MethodId} {av : Array Value} {below : List Frame} {meth : Method} {c : Code} {A : Nat → Prop} {G : Gv} {L : List Nat} {q : MS}  (C : mC p s m av meth c cX8_clean RX8 2 none) : ∀ (n : Nat) (x0 : Nat) (x1 : Int32) (S : MS) (H : Heap) (locs : List Loc) (ls : Array Slot), (x0 < shX.1 ∧ shX.2.1 x0 = 8) → mW G shX L S A s H locs → lv_has ls 2 [(0, .ref (ad L x0)), (1, .int x1)] → fX8_clean_2  n x0 x1 S = some q → W p l e (rmd (2)) s m av below meth c H locs 0 0 (MQ below (mQ G shX L q none A) av s 0 0 A) (F0 m 2 ls []) := by
  intro n
  induction n with
  | zero =>
    intro x0 x1 S H locs ls hx0 hW hl hf
    rw [fX8_clean_2] at hf
    cases hf
  | succ n ih =>
    intro x0 x1 S H locs ls hx0 hW hl hf
    rw [fX8_clean_2] at hf
    refine lv_iload_n C.1 C.2.1 dX8_clean_2 rfl (lv_at hl 1 rfl) ?_
    refine lv_bipush C.1 C.2.1 dX8_clean_3 bp_64 ?_
    refine lv_icmp_ge (tgt := 21) C.1 C.2.1 dX8_clean_5 rfl (fun c7 => ?_) (fun c7 => ?_)
    · have hf := (if_pos c7).symm.trans hf
      refine lv_aload_n C.1 C.2.1 dX8_clean_21 rfl (lv_at hl 0 rfl) ?_
      refine m_getr C hW hx0 flX8_24 (by decide) dX8_clean_22 (fun hk8 => ?_)
      obtain ⟨q9, h10, hf⟩ := bd hf
      refine m_callV (As := []) (rest := []) C hW hk8 (cX7_empty_ok  hk8 h10) mlX8_47 (by decide) rfl hl.1 rfl (Nat.le_of_ble_eq_true rfl) (Nat.le_of_ble_eq_true rfl) (Nat.le_of_ble_eq_true rfl) dX8_clean_25 (fun H locs hW => ?_)
      refine lv_aload_n C.1 C.2.1 dX8_clean_28 rfl (lv_at hl 0 rfl) ?_
      refine m_getr C hW hx0 flX8_28 (by decide) dX8_clean_29 (fun hk11 => ?_)
      obtain ⟨q12, h13, hf⟩ := bd hf
      refine m_callV (As := []) (rest := []) C hW hk11 (cX7_empty_ok  hk11 h13) mlX8_47 (by decide) rfl hl.1 rfl (Nat.le_of_ble_eq_true rfl) (Nat.le_of_ble_eq_true rfl) (Nat.le_of_ble_eq_true rfl) dX8_clean_32 (fun H locs hW => ?_)
      refine lv_aload_n C.1 C.2.1 dX8_clean_35 rfl (lv_at hl 0 rfl) ?_
      refine m_getr C hW hx0 flX8_31 (by decide) dX8_clean_36 (fun hk14 => ?_)
      obtain ⟨q15, h16, hf⟩ := bd hf
      refine m_callV (As := []) (rest := []) C hW hk14 (cX7_empty_ok  hk14 h16) mlX8_47 (by decide) rfl hl.1 rfl (Nat.le_of_ble_eq_true rfl) (Nat.le_of_ble_eq_true rfl) (Nat.le_of_ble_eq_true rfl) dX8_clean_39 (fun H locs hW => ?_)
      refine lv_aload_n C.1 C.2.1 dX8_clean_42 rfl (lv_at hl 0 rfl) ?_
      refine m_getr C hW hx0 flX8_34 (by decide) dX8_clean_43 (fun hk17 => ?_)
      obtain ⟨q18, h19, hf⟩ := bd hf
      refine m_callV (As := []) (rest := []) C hW hk17 (cX7_empty_ok  hk17 h19) mlX8_47 (by decide) rfl hl.1 rfl (Nat.le_of_ble_eq_true rfl) (Nat.le_of_ble_eq_true rfl) (Nat.le_of_ble_eq_true rfl) dX8_clean_46 (fun H locs hW => ?_)
      refine lv_aload_n C.1 C.2.1 dX8_clean_49 rfl (lv_at hl 0 rfl) ?_
      refine m_getr C hW hx0 flX8_37 (by decide) dX8_clean_50 (fun hk20 => ?_)
      obtain ⟨q21, h22, hf⟩ := bd hf
      refine m_callV (As := []) (rest := []) C hW hk20 (cX7_empty_ok  hk20 h22) mlX8_47 (by decide) rfl hl.1 rfl (Nat.le_of_ble_eq_true rfl) (Nat.le_of_ble_eq_true rfl) (Nat.le_of_ble_eq_true rfl) dX8_clean_53 (fun H locs hW => ?_)
      refine lv_iconst C.1 C.2.1 dX8_clean_56 ic_0 ?_
      refine lv_istore_n (lv' := [(1, .int (0 : Int32)), (0, .ref (ad L x0))]) C.1 C.2.1 dX8_clean_57 rfl hl (by decide) rfl (fun ls hl => ?_)
      exact kX8_clean_58  C 1000 x0 (0 : Int32) _ _ _ _ hx0 hW (lv_sub hl [1, 0] rfl) hf
    · have hf := (if_neg c7).symm.trans hf
      refine lv_aload_n C.1 C.2.1 dX8_clean_8 rfl (lv_at hl 0 rfl) ?_
      refine m_getr C hW hx0 flX8_9 (by decide) dX8_clean_9 (fun hk23 => ?_)
      refine lv_iload_n C.1 C.2.1 dX8_clean_12 rfl (lv_at hl 1 rfl) ?_
      refine lv_iconst C.1 C.2.1 dX8_clean_13 ic_0 ?_
      obtain ⟨hb24, hf⟩ := gd hf
      refine m_zast C hW hk23 hb24 dX8_clean_14 (fun H locs hW => ?_)
      refine lv_iinc (v := x1 + (1 : Int32)) (lv' := [(1, .int (x1 + (1 : Int32))), (0, .ref (ad L x0))]) C.1 C.2.1 dX8_clean_15 hl (k := 1) rfl (congrArg (fun z => x1 + z) ic_1) (by decide) rfl (fun ls hl => ?_)
      refine lv_goto (tgt := 2) C.1 C.2.1 dX8_clean_18 rfl ?_
      exact ih x0 (x1 + (1 : Int32)) _ _ _ _ hx0 hW (lv_sub hl [1, 0] rfl) hf

set_option maxRecDepth 100000 in
theorem cX8_clean_ok {l : Launch} {G : Gv} {L : List Nat} {S : MS} {a0 : Nat} {q : MS} (ha0 : a0 < shX.1 ∧ shX.2.1 a0 = 8) (hf : fX8_clean a0 S = some q) : Mt l yX8_clean cX8_clean 2 none (2) G shX L S [.ref (ad L a0)] none q := by
  refine m_enter (lv := [(0, .ref (ad L a0))]) (plainFor_of_name (by decide)) (Nat.le_of_ble_eq_true rfl) rfl ?_
  intro p e s m below meth c A ls C hW hl
  unfold fX8_clean at hf
  refine lv_iconst C.1 C.2.1 dX8_clean_0 ic_0 ?_
  refine lv_istore_n (lv' := [(1, .int (0 : Int32)), (0, .ref (ad L a0))]) C.1 C.2.1 dX8_clean_1 rfl hl (by decide) rfl (fun ls hl => ?_)
  exact kX8_clean_2  C 1000 a0 (0 : Int32) _ _ _ _ ha0 hW (lv_sub hl [1, 0] rfl) hf

def fX8_isWall (a0 : Nat) (a1 : Int32) (a2 : Int32) (S : MS) : Option Int32 := (fX8_isCell  a0 a1 a2 S).bind fun q1 => (if q1 = (0 : Int32) then some (0 : Int32) else (if bnd ((a1 * (8 : Int32)) + a2) (lnX (gR S a0 0)) = true then (if gI S (gR S a0 0) ((a1 * (8 : Int32)) + a2).toNatClampNeg = (0 : Int32) then some (0 : Int32) else some (1 : Int32)) else none))
set_option maxRecDepth 100000 in
theorem cX8_isWall_ok {l : Launch} {G : Gv} {L : List Nat} {S : MS} {a0 : Nat} {a1 : Int32} {a2 : Int32} {q : Int32} (ha0 : a0 < shX.1 ∧ shX.2.1 a0 = 8) (hf : fX8_isWall a0 a1 a2 S = some q) : Mt l yX8_isWall cX8_isWall 3 (some .boolean) (2) G shX L S [.ref (ad L a0), .int a1, .int a2] (some (.int q)) S := by
  refine m_enter (lv := [(0, .ref (ad L a0)), (1, .int a1), (2, .int a2)]) (plainFor_of_name (by decide)) (Nat.le_of_ble_eq_true rfl) rfl ?_
  intro p e s m below meth c A ls C hW hl
  unfold fX8_isWall at hf
  refine lv_aload_n C.1 C.2.1 dX8_isWall_0 rfl (lv_at hl 0 rfl) ?_
  refine lv_iload_n C.1 C.2.1 dX8_isWall_1 rfl (lv_at hl 1 rfl) ?_
  refine lv_iload_n C.1 C.2.1 dX8_isWall_2 rfl (lv_at hl 2 rfl) ?_
  obtain ⟨q1, h2, hf⟩ := bd hf
  refine m_callV (As := [.int a1, .int a2]) (rest := []) C hW ha0 (cX8_isCell_ok  ha0 h2) mlX8_89 (by decide) rfl hl.1 rfl (Nat.le_of_ble_eq_true rfl) (Nat.le_of_ble_eq_true rfl) (Nat.le_of_ble_eq_true rfl) dX8_isWall_3 (fun H locs hW => ?_)
  refine lv_if_eq (tgt := 27) C.1 C.2.1 dX8_isWall_6 rfl (fun c3 => ?_) (fun c3 => ?_)
  · have hf := (if_pos c3).symm.trans hf
    refine lv_iconst C.1 C.2.1 dX8_isWall_27 ic_0 ?_
    cases hf
    exact m_zret C hW rfl dX8_isWall_28
  · have hf := (if_neg c3).symm.trans hf
    refine lv_aload_n C.1 C.2.1 dX8_isWall_9 rfl (lv_at hl 0 rfl) ?_
    refine m_getr C hW ha0 flX8_9 (by decide) dX8_isWall_10 (fun hk4 => ?_)
    refine lv_iload_n C.1 C.2.1 dX8_isWall_13 rfl (lv_at hl 1 rfl) ?_
    refine lv_bipush C.1 C.2.1 dX8_isWall_14 bp_8 ?_
    refine lv_imul C.1 C.2.1 dX8_isWall_16 ?_
    refine lv_iload_n C.1 C.2.1 dX8_isWall_17 rfl (lv_at hl 2 rfl) ?_
    refine lv_iadd C.1 C.2.1 dX8_isWall_18 ?_
    obtain ⟨hb5, hf⟩ := gd hf
    refine m_zald C hW hk4 hb5 dX8_isWall_19 ?_
    refine lv_if_eq (tgt := 27) C.1 C.2.1 dX8_isWall_20 rfl (fun c6 => ?_) (fun c6 => ?_)
    · have hf := (if_pos c6).symm.trans hf
      refine lv_iconst C.1 C.2.1 dX8_isWall_27 ic_0 ?_
      cases hf
      exact m_zret C hW rfl dX8_isWall_28
    · have hf := (if_neg c6).symm.trans hf
      refine lv_iconst C.1 C.2.1 dX8_isWall_23 ic_1 ?_
      refine lv_goto (tgt := 28) C.1 C.2.1 dX8_isWall_24 rfl ?_
      cases hf
      exact m_zret C hW rfl dX8_isWall_28

def fX8_setWall (a0 : Nat) (a1 : Int32) (a2 : Int32) (S : MS) : Option MS := (fX8_isCell  a0 a1 a2 S).bind fun q1 => (if q1 = (0 : Int32) then some S else (if bnd ((a1 * (8 : Int32)) + a2) (lnX (gR S a0 0)) = true then some (pI (pI S (gR S a0 0) (((a1 * (8 : Int32)) + a2).toNatClampNeg) (vp_nar .boolean (1 : Int32))) a0 12 ((gI (pI S (gR S a0 0) (((a1 * (8 : Int32)) + a2).toNatClampNeg) (vp_nar .boolean (1 : Int32))) a0 12) + (1 : Int32))) else none))
set_option maxRecDepth 100000 in
theorem cX8_setWall_ok {l : Launch} {G : Gv} {L : List Nat} {S : MS} {a0 : Nat} {a1 : Int32} {a2 : Int32} {q : MS} (ha0 : a0 < shX.1 ∧ shX.2.1 a0 = 8) (hf : fX8_setWall a0 a1 a2 S = some q) : Mt l yX8_setWall cX8_setWall 3 none (2) G shX L S [.ref (ad L a0), .int a1, .int a2] none q := by
  refine m_enter (lv := [(0, .ref (ad L a0)), (1, .int a1), (2, .int a2)]) (plainFor_of_name (by decide)) (Nat.le_of_ble_eq_true rfl) rfl ?_
  intro p e s m below meth c A ls C hW hl
  unfold fX8_setWall at hf
  refine lv_aload_n C.1 C.2.1 dX8_setWall_0 rfl (lv_at hl 0 rfl) ?_
  refine lv_iload_n C.1 C.2.1 dX8_setWall_1 rfl (lv_at hl 1 rfl) ?_
  refine lv_iload_n C.1 C.2.1 dX8_setWall_2 rfl (lv_at hl 2 rfl) ?_
  obtain ⟨q1, h2, hf⟩ := bd hf
  refine m_callV (As := [.int a1, .int a2]) (rest := []) C hW ha0 (cX8_isCell_ok  ha0 h2) mlX8_89 (by decide) rfl hl.1 rfl (Nat.le_of_ble_eq_true rfl) (Nat.le_of_ble_eq_true rfl) (Nat.le_of_ble_eq_true rfl) dX8_setWall_3 (fun H locs hW => ?_)
  refine lv_if_eq (tgt := 31) C.1 C.2.1 dX8_setWall_6 rfl (fun c3 => ?_) (fun c3 => ?_)
  · have hf := (if_pos c3).symm.trans hf
    cases hf
    exact m_vret C hW dX8_setWall_31
  · have hf := (if_neg c3).symm.trans hf
    refine lv_aload_n C.1 C.2.1 dX8_setWall_9 rfl (lv_at hl 0 rfl) ?_
    refine m_getr C hW ha0 flX8_9 (by decide) dX8_setWall_10 (fun hk4 => ?_)
    refine lv_iload_n C.1 C.2.1 dX8_setWall_13 rfl (lv_at hl 1 rfl) ?_
    refine lv_bipush C.1 C.2.1 dX8_setWall_14 bp_8 ?_
    refine lv_imul C.1 C.2.1 dX8_setWall_16 ?_
    refine lv_iload_n C.1 C.2.1 dX8_setWall_17 rfl (lv_at hl 2 rfl) ?_
    refine lv_iadd C.1 C.2.1 dX8_setWall_18 ?_
    refine lv_iconst C.1 C.2.1 dX8_setWall_19 ic_1 ?_
    obtain ⟨hb5, hf⟩ := gd hf
    refine m_zast C hW hk4 hb5 dX8_setWall_20 (fun H locs hW => ?_)
    refine lv_aload_n C.1 C.2.1 dX8_setWall_21 rfl (lv_at hl 0 rfl) ?_
    refine lv_dup C.1 C.2.1 dX8_setWall_22 rfl ?_
    refine m_geti C hW ha0 flX8_64 dX8_setWall_23 ?_
    refine lv_iconst C.1 C.2.1 dX8_setWall_26 ic_1 ?_
    refine lv_iadd C.1 C.2.1 dX8_setWall_27 ?_
    refine m_puti C hW ha0 fpX8_64 dX8_setWall_28 (fun H locs hW => ?_)
    cases hf
    exact m_vret C hW dX8_setWall_31

def fX8_worthOf_36 (K4 : Nat → Int32 → Int32 → Int32 → MS → Option Int32) (x0 : Nat) (x1 : Int32) (x2 : Int32) (x3 : Int32) (S : MS) : Option Int32 := K4 x0 x1 x2 (x3 + (1 : Int32)) S
def fX8_worthOf_4  : Nat → Nat → Int32 → Int32 → Int32 → MS → Option Int32
  | 0, _, _, _, _, _ => none
  | n + 1, x0, x1, x2, x3, S => (fX7_size  (gR S x0 5) S).bind fun q2 => (if q2 ≤ x3 then some x2 else (if (x1 >>> (x3 &&& 31)) &&& (1 : Int32) = (1 : Int32) then (fX7_get  (gR S x0 5) x3 (4 : Int32) S).bind fun q7 => fX8_worthOf_36 (fX8_worthOf_4  n) x0 x1 (x2 + q7) x3 S else fX8_worthOf_36 (fX8_worthOf_4  n) x0 x1 x2 x3 S))
def fX8_worthOf (a0 : Nat) (a1 : Int32) (S : MS) : Option Int32 := fX8_worthOf_4  1000 a0 a1 (0 : Int32) (0 : Int32) S
set_option maxRecDepth 100000 in
theorem kX8_worthOf_36 {p : Program} {l : Launch} {e : Env} {s : State} {m : MethodId} {av : Array Value} {below : List Frame} {meth : Method} {c : Code} {A : Nat → Prop} {G : Gv} {L : List Nat} {S : MS} {q : Int32} {K4 : Nat → Int32 → Int32 → Int32 → MS → Option Int32} (hK4 : ∀ (x0 : Nat) (x1 : Int32) (x2 : Int32) (x3 : Int32) (H : Heap) (locs : List Loc) (ls : Array Slot), (x0 < shX.1 ∧ shX.2.1 x0 = 8) → mW G shX L S A s H locs → lv_has ls 4 [(0, .ref (ad L x0)), (1, .int x1), (2, .int x2), (3, .int x3)] → K4 x0 x1 x2 x3 S = some q → W p l e (rmd (2)) s m av below meth c H locs 0 0 (MQ below (mQ G shX L S (some (.int q)) A) av s 0 0 A) (F0 m 4 ls [])) (C : mC p s m av meth c cX8_worthOf RX8 4 (some .int)) : ∀ (x0 : Nat) (x1 : Int32) (x2 : Int32) (x3 : Int32) (H : Heap) (locs : List Loc) (ls : Array Slot), (x0 < shX.1 ∧ shX.2.1 x0 = 8) → mW G shX L S A s H locs → lv_has ls 4 [(0, .ref (ad L x0)), (1, .int x1), (2, .int x2), (3, .int x3)] → fX8_worthOf_36 K4 x0 x1 x2 x3 S = some q → W p l e (rmd (2)) s m av below meth c H locs 0 0 (MQ below (mQ G shX L S (some (.int q)) A) av s 0 0 A) (F0 m 36 ls []) := by
  intro x0 x1 x2 x3 H locs ls hx0 hW hl hf
  unfold fX8_worthOf_36 at hf
  refine lv_iinc (v := x3 + (1 : Int32)) (lv' := [(3, .int (x3 + (1 : Int32))), (0, .ref (ad L x0)), (1, .int x1), (2, .int x2)]) C.1 C.2.1 dX8_worthOf_36 hl (k := 3) rfl (congrArg (fun z => x3 + z) ic_1) (by decide) rfl (fun ls hl => ?_)
  refine lv_goto (tgt := 4) C.1 C.2.1 dX8_worthOf_39 rfl ?_
  exact hK4 x0 x1 x2 (x3 + (1 : Int32)) _ _ _ hx0 hW (lv_sub hl [1, 2, 3, 0] rfl) hf

set_option maxRecDepth 100000 in
theorem kX8_worthOf_4 {p : Program} {l : Launch} {e : Env} {s : State} {m : MethodId} {av : Array Value} {below : List Frame} {meth : Method} {c : Code} {A : Nat → Prop} {G : Gv} {L : List Nat} {S : MS} {q : Int32}  (C : mC p s m av meth c cX8_worthOf RX8 4 (some .int)) : ∀ (n : Nat) (x0 : Nat) (x1 : Int32) (x2 : Int32) (x3 : Int32) (H : Heap) (locs : List Loc) (ls : Array Slot), (x0 < shX.1 ∧ shX.2.1 x0 = 8) → mW G shX L S A s H locs → lv_has ls 4 [(0, .ref (ad L x0)), (1, .int x1), (2, .int x2), (3, .int x3)] → fX8_worthOf_4  n x0 x1 x2 x3 S = some q → W p l e (rmd (2)) s m av below meth c H locs 0 0 (MQ below (mQ G shX L S (some (.int q)) A) av s 0 0 A) (F0 m 4 ls []) := by
  intro n
  induction n with
  | zero =>
    intro x0 x1 x2 x3 H locs ls hx0 hW hl hf
    rw [fX8_worthOf_4] at hf
    cases hf
  | succ n ih =>
    intro x0 x1 x2 x3 H locs ls hx0 hW hl hf
    rw [fX8_worthOf_4] at hf
    refine lv_iload_n C.1 C.2.1 dX8_worthOf_4 rfl (lv_at hl 3 rfl) ?_
    refine lv_aload_n C.1 C.2.1 dX8_worthOf_5 rfl (lv_at hl 0 rfl) ?_
    refine m_getr C hW hx0 flX8_34 (by decide) dX8_worthOf_6 (fun hk1 => ?_)
    obtain ⟨q2, h3, hf⟩ := bd hf
    refine m_callV (As := []) (rest := [.int x3]) C hW hk1 (cX7_size_ok  hk1 h3) mlX8_76 (by decide) rfl hl.1 rfl (Nat.le_of_ble_eq_true rfl) (Nat.le_of_ble_eq_true rfl) (Nat.le_of_ble_eq_true rfl) dX8_worthOf_9 (fun H locs hW => ?_)
    refine lv_icmp_ge (tgt := 42) C.1 C.2.1 dX8_worthOf_12 rfl (fun c4 => ?_) (fun c4 => ?_)
    · have hf := (if_pos c4).symm.trans hf
      refine lv_iload_n C.1 C.2.1 dX8_worthOf_42 rfl (lv_at hl 2 rfl) ?_
      cases hf
      exact m_iret C hW dX8_worthOf_43
    · have hf := (if_neg c4).symm.trans hf
      refine lv_iload_n C.1 C.2.1 dX8_worthOf_15 rfl (lv_at hl 1 rfl) ?_
      refine lv_iload_n C.1 C.2.1 dX8_worthOf_16 rfl (lv_at hl 3 rfl) ?_
      refine lv_ishr C.1 C.2.1 dX8_worthOf_17 ?_
      refine lv_iconst C.1 C.2.1 dX8_worthOf_18 ic_1 ?_
      refine lv_iand C.1 C.2.1 dX8_worthOf_19 ?_
      refine lv_iconst C.1 C.2.1 dX8_worthOf_20 ic_1 ?_
      refine lv_icmp_ne (tgt := 36) C.1 C.2.1 dX8_worthOf_21 rfl (fun c5 => ?_) (fun c5 => ?_)
      · have hf := (if_neg c5).symm.trans hf
        exact kX8_worthOf_36 ih C x0 x1 x2 x3 _ _ _ hx0 hW (lv_sub hl [0, 1, 2, 3] rfl) hf
      · have hf := (if_pos c5).symm.trans hf
        refine lv_iload_n C.1 C.2.1 dX8_worthOf_24 rfl (lv_at hl 2 rfl) ?_
        refine lv_aload_n C.1 C.2.1 dX8_worthOf_25 rfl (lv_at hl 0 rfl) ?_
        refine m_getr C hW hx0 flX8_34 (by decide) dX8_worthOf_26 (fun hk6 => ?_)
        refine lv_iload_n C.1 C.2.1 dX8_worthOf_29 rfl (lv_at hl 3 rfl) ?_
        refine lv_iconst C.1 C.2.1 dX8_worthOf_30 ic_4 ?_
        obtain ⟨q7, h8, hf⟩ := bd hf
        refine m_callV (As := [.int x3, .int (4 : Int32)]) (rest := [.int x2]) C hW hk6 (cX7_get_ok  hk6 h8) mlX8_80 (by decide) rfl hl.1 rfl (Nat.le_of_ble_eq_true rfl) (Nat.le_of_ble_eq_true rfl) (Nat.le_of_ble_eq_true rfl) dX8_worthOf_31 (fun H locs hW => ?_)
        refine lv_iadd C.1 C.2.1 dX8_worthOf_34 ?_
        refine lv_istore_n (lv' := [(2, .int (x2 + q7)), (0, .ref (ad L x0)), (1, .int x1), (3, .int x3)]) C.1 C.2.1 dX8_worthOf_35 rfl hl (by decide) rfl (fun ls hl => ?_)
        exact kX8_worthOf_36 ih C x0 x1 (x2 + q7) x3 _ _ _ hx0 hW (lv_sub hl [1, 2, 0, 3] rfl) hf

set_option maxRecDepth 100000 in
theorem cX8_worthOf_ok {l : Launch} {G : Gv} {L : List Nat} {S : MS} {a0 : Nat} {a1 : Int32} {q : Int32} (ha0 : a0 < shX.1 ∧ shX.2.1 a0 = 8) (hf : fX8_worthOf a0 a1 S = some q) : Mt l yX8_worthOf cX8_worthOf 4 (some .int) (2) G shX L S [.ref (ad L a0), .int a1] (some (.int q)) S := by
  refine m_enter (lv := [(0, .ref (ad L a0)), (1, .int a1)]) (plainFor_of_name (by decide)) (Nat.le_of_ble_eq_true rfl) rfl ?_
  intro p e s m below meth c A ls C hW hl
  unfold fX8_worthOf at hf
  refine lv_iconst C.1 C.2.1 dX8_worthOf_0 ic_0 ?_
  refine lv_istore_n (lv' := [(2, .int (0 : Int32)), (0, .ref (ad L a0)), (1, .int a1)]) C.1 C.2.1 dX8_worthOf_1 rfl hl (by decide) rfl (fun ls hl => ?_)
  refine lv_iconst C.1 C.2.1 dX8_worthOf_2 ic_0 ?_
  refine lv_istore_n (lv' := [(3, .int (0 : Int32)), (2, .int (0 : Int32)), (0, .ref (ad L a0)), (1, .int a1)]) C.1 C.2.1 dX8_worthOf_3 rfl hl (by decide) rfl (fun ls hl => ?_)
  exact kX8_worthOf_4  C 1000 a0 a1 (0 : Int32) (0 : Int32) _ _ _ ha0 hW (lv_sub hl [2, 3, 1, 0] rfl) hf

def fX9_begin_83 (K61 : Nat → Int32 → MS → Option MS) (x0 : Nat) (x4 : Int32) (S : MS) : Option MS := (if bnd x4 (lnX (gR S x0 2)) = true then K61 x0 (x4 + (1 : Int32)) (pI S (gR S x0 2) x4.toNatClampNeg (0 : Int32)) else none)
def fX9_begin_61  : Nat → Nat → Int32 → MS → Option MS
  | 0, _, _, _ => none
  | n + 1, x0, x4, S => (if (4 : Int32) ≤ x4 then some S else (if bnd x4 (lnX (gR S x0 0)) = true then (if bnd x4 (lnX (gR (pI S (gR S x0 0) x4.toNatClampNeg (0 : Int32)) x0 1)) = true then fX9_begin_83 (fX9_begin_61  n) x0 x4 (pI (pI S (gR S x0 0) x4.toNatClampNeg (0 : Int32)) (gR (pI S (gR S x0 0) x4.toNatClampNeg (0 : Int32)) x0 1) x4.toNatClampNeg (0 : Int32)) else none) else none))
def fX9_begin_40  (x0 : Nat) (x1 : Nat) (S : MS) : Option MS := fX9_begin_61  1000 x0 (0 : Int32) (pI (pI (pI S x0 9 (0 : Int32)) x0 10 (0 : Int32)) x0 11 (gI (pI (pI S x0 9 (0 : Int32)) x0 10 (0 : Int32)) x1 14))
def fX9_begin (a0 : Nat) (a1 : Nat) (a2 : Int32) (a3 : Int32) (S : MS) : Option MS := (fX7_size  (gR (pI (pI (pI (pI S a0 3 (0 : Int32)) a0 4 a2) a0 5 a3) a0 6 (0 : Int32)) a1 3) (pI (pI (pI (pI S a0 3 (0 : Int32)) a0 4 a2) a0 5 a3) a0 6 (0 : Int32))).bind fun q9 => fX9_begin_40  a0 a1 (pI (pI (pI (pI (pI (pI S a0 3 (0 : Int32)) a0 4 a2) a0 5 a3) a0 6 (0 : Int32)) a0 7 (((1 : Int32) <<< (q9 &&& 31)) - (1 : Int32))) a0 8 (0 : Int32))
set_option maxRecDepth 100000 in
theorem kX9_begin_83 {p : Program} {l : Launch} {e : Env} {s : State} {m : MethodId} {av : Array Value} {below : List Frame} {meth : Method} {c : Code} {A : Nat → Prop} {G : Gv} {L : List Nat} {q : MS} {K61 : Nat → Int32 → MS → Option MS} (hK61 : ∀ (x0 : Nat) (x4 : Int32) (S : MS) (H : Heap) (locs : List Loc) (ls : Array Slot), (x0 < shX.1 ∧ shX.2.1 x0 = 9) → mW G shX L S A s H locs → lv_has ls 5 [(0, .ref (ad L x0)), (4, .int x4)] → K61 x0 x4 S = some q → W p l e (rmd (2)) s m av below meth c H locs 0 0 (MQ below (mQ G shX L q none A) av s 0 0 A) (F0 m 61 ls [])) (C : mC p s m av meth c cX9_begin RX9 5 none) : ∀ (x0 : Nat) (x4 : Int32) (S : MS) (H : Heap) (locs : List Loc) (ls : Array Slot), (x0 < shX.1 ∧ shX.2.1 x0 = 9) → mW G shX L S A s H locs → lv_has ls 5 [(0, .ref (ad L x0)), (4, .int x4)] → fX9_begin_83 K61 x0 x4 S = some q → W p l e (rmd (2)) s m av below meth c H locs 0 0 (MQ below (mQ G shX L q none A) av s 0 0 A) (F0 m 83 ls []) := by
  intro x0 x4 S H locs ls hx0 hW hl hf
  unfold fX9_begin_83 at hf
  refine lv_aload_n C.1 C.2.1 dX9_begin_83 rfl (lv_at hl 0 rfl) ?_
  refine m_getr C hW hx0 flX9_18 (by decide) dX9_begin_84 (fun hk1 => ?_)
  refine lv_iload C.1 C.2.1 dX9_begin_87 (lv_at hl 1 rfl) ?_
  refine lv_iconst C.1 C.2.1 dX9_begin_89 ic_0 ?_
  obtain ⟨hb2, hf⟩ := gd hf
  refine m_iast C hW hk1 hb2 dX9_begin_90 (fun H locs hW => ?_)
  refine lv_iinc (v := x4 + (1 : Int32)) (lv' := [(4, .int (x4 + (1 : Int32))), (0, .ref (ad L x0))]) C.1 C.2.1 dX9_begin_91 hl (k := 1) rfl (congrArg (fun z => x4 + z) ic_1) (by decide) rfl (fun ls hl => ?_)
  refine lv_goto (tgt := 61) C.1 C.2.1 dX9_begin_94 rfl ?_
  exact hK61 x0 (x4 + (1 : Int32)) _ _ _ _ hx0 hW (lv_sub hl [1, 0] rfl) hf

set_option maxRecDepth 100000 in
theorem kX9_begin_61 {p : Program} {l : Launch} {e : Env} {s : State} {m : MethodId} {av : Array Value} {below : List Frame} {meth : Method} {c : Code} {A : Nat → Prop} {G : Gv} {L : List Nat} {q : MS}  (C : mC p s m av meth c cX9_begin RX9 5 none) : ∀ (n : Nat) (x0 : Nat) (x4 : Int32) (S : MS) (H : Heap) (locs : List Loc) (ls : Array Slot), (x0 < shX.1 ∧ shX.2.1 x0 = 9) → mW G shX L S A s H locs → lv_has ls 5 [(0, .ref (ad L x0)), (4, .int x4)] → fX9_begin_61  n x0 x4 S = some q → W p l e (rmd (2)) s m av below meth c H locs 0 0 (MQ below (mQ G shX L q none A) av s 0 0 A) (F0 m 61 ls []) := by
  intro n
  induction n with
  | zero =>
    intro x0 x4 S H locs ls hx0 hW hl hf
    rw [fX9_begin_61] at hf
    cases hf
  | succ n ih =>
    intro x0 x4 S H locs ls hx0 hW hl hf
    rw [fX9_begin_61] at hf
    refine lv_iload C.1 C.2.1 dX9_begin_61 (lv_at hl 1 rfl) ?_
    refine lv_iconst C.1 C.2.1 dX9_begin_63 ic_4 ?_
    refine lv_icmp_ge (tgt := 97) C.1 C.2.1 dX9_begin_64 rfl (fun c3 => ?_) (fun c3 => ?_)
    · have hf := (if_pos c3).symm.trans hf
      cases hf
      exact m_vret C hW dX9_begin_97
    · have hf := (if_neg c3).symm.trans hf
      refine lv_aload_n C.1 C.2.1 dX9_begin_67 rfl (lv_at hl 0 rfl) ?_
      refine m_getr C hW hx0 flX9_9 (by decide) dX9_begin_68 (fun hk4 => ?_)
      refine lv_iload C.1 C.2.1 dX9_begin_71 (lv_at hl 1 rfl) ?_
      refine lv_iconst C.1 C.2.1 dX9_begin_73 ic_0 ?_
      obtain ⟨hb5, hf⟩ := gd hf
      refine m_iast C hW hk4 hb5 dX9_begin_74 (fun H locs hW => ?_)
      refine lv_aload_n C.1 C.2.1 dX9_begin_75 rfl (lv_at hl 0 rfl) ?_
      refine m_getr C hW hx0 flX9_15 (by decide) dX9_begin_76 (fun hk6 => ?_)
      refine lv_iload C.1 C.2.1 dX9_begin_79 (lv_at hl 1 rfl) ?_
      refine lv_iconst C.1 C.2.1 dX9_begin_81 ic_0 ?_
      obtain ⟨hb7, hf⟩ := gd hf
      refine m_iast C hW hk6 hb7 dX9_begin_82 (fun H locs hW => ?_)
      exact kX9_begin_83 ih C x0 x4 _ _ _ _ hx0 hW (lv_sub hl [0, 1] rfl) hf

set_option maxRecDepth 100000 in
theorem kX9_begin_40 {p : Program} {l : Launch} {e : Env} {s : State} {m : MethodId} {av : Array Value} {below : List Frame} {meth : Method} {c : Code} {A : Nat → Prop} {G : Gv} {L : List Nat} {q : MS}  (C : mC p s m av meth c cX9_begin RX9 5 none) : ∀ (x0 : Nat) (x1 : Nat) (S : MS) (H : Heap) (locs : List Loc) (ls : Array Slot), (x0 < shX.1 ∧ shX.2.1 x0 = 9) → (x1 < shX.1 ∧ shX.2.1 x1 = 8) → mW G shX L S A s H locs → lv_has ls 5 [(0, .ref (ad L x0)), (1, .ref (ad L x1))] → fX9_begin_40  x0 x1 S = some q → W p l e (rmd (2)) s m av below meth c H locs 0 0 (MQ below (mQ G shX L q none A) av s 0 0 A) (F0 m 40 ls []) := by
  intro x0 x1 S H locs ls hx0 hx1 hW hl hf
  unfold fX9_begin_40 at hf
  refine lv_aload_n C.1 C.2.1 dX9_begin_40 rfl (lv_at hl 0 rfl) ?_
  refine lv_iconst C.1 C.2.1 dX9_begin_41 ic_0 ?_
  refine m_puti C hW hx0 fpX9_52 dX9_begin_42 (fun H locs hW => ?_)
  refine lv_aload_n C.1 C.2.1 dX9_begin_45 rfl (lv_at hl 0 rfl) ?_
  refine lv_iconst C.1 C.2.1 dX9_begin_46 ic_0 ?_
  refine m_puti C hW hx0 fpX9_55 dX9_begin_47 (fun H locs hW => ?_)
  refine lv_aload_n C.1 C.2.1 dX9_begin_50 rfl (lv_at hl 0 rfl) ?_
  refine lv_aload_n C.1 C.2.1 dX9_begin_51 rfl (lv_at hl 1 rfl) ?_
  refine m_geti C hW hx1 flX9_58 dX9_begin_52 ?_
  refine m_puti C hW hx0 fpX9_61 dX9_begin_55 (fun H locs hW => ?_)
  refine lv_iconst C.1 C.2.1 dX9_begin_58 ic_0 ?_
  refine lv_istore (lv' := [(4, .int (0 : Int32)), (0, .ref (ad L x0)), (1, .ref (ad L x1))]) C.1 C.2.1 dX9_begin_59 hl (by decide) rfl (fun ls hl => ?_)
  exact kX9_begin_61  C 1000 x0 (0 : Int32) _ _ _ _ hx0 hW (lv_sub hl [1, 0] rfl) hf

set_option maxRecDepth 100000 in
theorem cX9_begin_ok {l : Launch} {G : Gv} {L : List Nat} {S : MS} {a0 : Nat} {a1 : Nat} {a2 : Int32} {a3 : Int32} {q : MS} (ha0 : a0 < shX.1 ∧ shX.2.1 a0 = 9) (ha1 : a1 < shX.1 ∧ shX.2.1 a1 = 8) (hf : fX9_begin a0 a1 a2 a3 S = some q) : Mt l yX9_begin cX9_begin 5 none (2) G shX L S [.ref (ad L a0), .ref (ad L a1), .int a2, .int a3] none q := by
  refine m_enter (lv := [(0, .ref (ad L a0)), (1, .ref (ad L a1)), (2, .int a2), (3, .int a3)]) (plainFor_of_name (by decide)) (Nat.le_of_ble_eq_true rfl) rfl ?_
  intro p e s m below meth c A ls C hW hl
  unfold fX9_begin at hf
  refine lv_aload_n C.1 C.2.1 dX9_begin_0 rfl (lv_at hl 0 rfl) ?_
  refine lv_iconst C.1 C.2.1 dX9_begin_1 ic_0 ?_
  refine m_puti C hW ha0 fpX9_21 dX9_begin_2 (fun H locs hW => ?_)
  refine lv_aload_n C.1 C.2.1 dX9_begin_5 rfl (lv_at hl 0 rfl) ?_
  refine lv_iload_n C.1 C.2.1 dX9_begin_6 rfl (lv_at hl 2 rfl) ?_
  refine m_puti C hW ha0 fpX9_25 dX9_begin_7 (fun H locs hW => ?_)
  refine lv_aload_n C.1 C.2.1 dX9_begin_10 rfl (lv_at hl 0 rfl) ?_
  refine lv_iload_n C.1 C.2.1 dX9_begin_11 rfl (lv_at hl 3 rfl) ?_
  refine m_puti C hW ha0 fpX9_28 dX9_begin_12 (fun H locs hW => ?_)
  refine lv_aload_n C.1 C.2.1 dX9_begin_15 rfl (lv_at hl 0 rfl) ?_
  refine lv_iconst C.1 C.2.1 dX9_begin_16 ic_0 ?_
  refine m_puti C hW ha0 fpX9_31 dX9_begin_17 (fun H locs hW => ?_)
  refine lv_aload_n C.1 C.2.1 dX9_begin_20 rfl (lv_at hl 0 rfl) ?_
  refine lv_iconst C.1 C.2.1 dX9_begin_21 ic_1 ?_
  refine lv_aload_n C.1 C.2.1 dX9_begin_22 rfl (lv_at hl 1 rfl) ?_
  refine m_getr C hW ha1 flX9_34 (by decide) dX9_begin_23 (fun hk8 => ?_)
  obtain ⟨q9, h10, hf⟩ := bd hf
  refine m_callV (As := []) (rest := [.int (1 : Int32), .ref (ad L a0)]) C hW hk8 (cX7_size_ok  hk8 h10) mlX9_40 (by decide) rfl hl.1 rfl (Nat.le_of_ble_eq_true rfl) (Nat.le_of_ble_eq_true rfl) (Nat.le_of_ble_eq_true rfl) dX9_begin_26 (fun H locs hW => ?_)
  refine lv_ishl C.1 C.2.1 dX9_begin_29 ?_
  refine lv_iconst C.1 C.2.1 dX9_begin_30 ic_1 ?_
  refine lv_isub C.1 C.2.1 dX9_begin_31 ?_
  refine m_puti C hW ha0 fpX9_46 dX9_begin_32 (fun H locs hW => ?_)
  refine lv_aload_n C.1 C.2.1 dX9_begin_35 rfl (lv_at hl 0 rfl) ?_
  refine lv_iconst C.1 C.2.1 dX9_begin_36 ic_0 ?_
  refine m_puti C hW ha0 fpX9_49 dX9_begin_37 (fun H locs hW => ?_)
  exact kX9_begin_40  C a0 a1 _ _ _ _ ha0 ha1 hW (lv_sub hl [0, 1] rfl) hf

def fX10_isMan (a0 : Nat) (a1 : Int32) (S : MS) : Option Int32 := (if (4 : Int32) ≤ a1 then some (0 : Int32) else (fX7_has  (gR S (gR S a0 1) 6) a1 S).bind fun q4 => (if q4 = (0 : Int32) then some (0 : Int32) else some (1 : Int32)))
set_option maxRecDepth 100000 in
theorem cX10_isMan_ok {l : Launch} {G : Gv} {L : List Nat} {S : MS} {a0 : Nat} {a1 : Int32} {q : Int32} (ha0 : a0 < shX.1 ∧ shX.2.1 a0 = 10) (hf : fX10_isMan a0 a1 S = some q) : Mt l yX10_isMan cX10_isMan 2 (some .boolean) (2) G shX L S [.ref (ad L a0), .int a1] (some (.int q)) S := by
  refine m_enter (lv := [(0, .ref (ad L a0)), (1, .int a1)]) (plainFor_of_name (by decide)) (Nat.le_of_ble_eq_true rfl) rfl ?_
  intro p e s m below meth c A ls C hW hl
  unfold fX10_isMan at hf
  refine lv_iload_n C.1 C.2.1 dX10_isMan_0 rfl (lv_at hl 1 rfl) ?_
  refine lv_iconst C.1 C.2.1 dX10_isMan_1 ic_4 ?_
  refine lv_icmp_ge (tgt := 23) C.1 C.2.1 dX10_isMan_2 rfl (fun c1 => ?_) (fun c1 => ?_)
  · have hf := (if_pos c1).symm.trans hf
    refine lv_iconst C.1 C.2.1 dX10_isMan_23 ic_0 ?_
    cases hf
    exact m_zret C hW rfl dX10_isMan_24
  · have hf := (if_neg c1).symm.trans hf
    refine lv_aload_n C.1 C.2.1 dX10_isMan_5 rfl (lv_at hl 0 rfl) ?_
    refine m_getr C hW ha0 flX10_16 (by decide) dX10_isMan_6 (fun hk2 => ?_)
    refine m_getr C hW hk2 flX10_154 (by decide) dX10_isMan_9 (fun hk3 => ?_)
    refine lv_iload_n C.1 C.2.1 dX10_isMan_12 rfl (lv_at hl 1 rfl) ?_
    obtain ⟨q4, h5, hf⟩ := bd hf
    refine m_callV (As := [.int a1]) (rest := []) C hW hk3 (cX7_has_ok  hk3 h5) mlX10_179 (by decide) rfl hl.1 rfl (Nat.le_of_ble_eq_true rfl) (Nat.le_of_ble_eq_true rfl) (Nat.le_of_ble_eq_true rfl) dX10_isMan_13 (fun H locs hW => ?_)
    refine lv_if_eq (tgt := 23) C.1 C.2.1 dX10_isMan_16 rfl (fun c6 => ?_) (fun c6 => ?_)
    · have hf := (if_pos c6).symm.trans hf
      refine lv_iconst C.1 C.2.1 dX10_isMan_23 ic_0 ?_
      cases hf
      exact m_zret C hW rfl dX10_isMan_24
    · have hf := (if_neg c6).symm.trans hf
      refine lv_iconst C.1 C.2.1 dX10_isMan_19 ic_1 ?_
      refine lv_goto (tgt := 24) C.1 C.2.1 dX10_isMan_20 rfl ?_
      cases hf
      exact m_zret C hW rfl dX10_isMan_24

def fX10_lamp (a0 : Nat) (a1 : Int32) (a2 : Int32) (S : MS) : Option Int32 := (fX7_has  (gR S (gR S a0 1) 3) a1 S).bind fun q3 => (if q3 = (0 : Int32) then some (-1 : Int32) else (if a2 < (0 : Int32) then some (-1 : Int32) else (if a2 ≤ (3 : Int32) then (if a2 = (3 : Int32) then some (((gI S (gR S a0 9) 7) >>> (a1 &&& 31)) &&& (1 : Int32)) else (fX7_get  (gR S (gR S a0 1) 3) a1 ((1 : Int32) + a2) S).bind fun q11 => some q11) else some (-1 : Int32))))
set_option maxRecDepth 100000 in
theorem cX10_lamp_ok {l : Launch} {G : Gv} {L : List Nat} {S : MS} {a0 : Nat} {a1 : Int32} {a2 : Int32} {q : Int32} (ha0 : a0 < shX.1 ∧ shX.2.1 a0 = 10) (hf : fX10_lamp a0 a1 a2 S = some q) : Mt l yX10_lamp cX10_lamp 3 (some .int) (2) G shX L S [.ref (ad L a0), .int a1, .int a2] (some (.int q)) S := by
  refine m_enter (lv := [(0, .ref (ad L a0)), (1, .int a1), (2, .int a2)]) (plainFor_of_name (by decide)) (Nat.le_of_ble_eq_true rfl) rfl ?_
  intro p e s m below meth c A ls C hW hl
  unfold fX10_lamp at hf
  refine lv_aload_n C.1 C.2.1 dX10_lamp_0 rfl (lv_at hl 0 rfl) ?_
  refine m_getr C hW ha0 flX10_16 (by decide) dX10_lamp_1 (fun hk1 => ?_)
  refine m_getr C hW hk1 flX10_141 (by decide) dX10_lamp_4 (fun hk2 => ?_)
  refine lv_iload_n C.1 C.2.1 dX10_lamp_7 rfl (lv_at hl 1 rfl) ?_
  obtain ⟨q3, h4, hf⟩ := bd hf
  refine m_callV (As := [.int a1]) (rest := []) C hW hk2 (cX7_has_ok  hk2 h4) mlX10_179 (by decide) rfl hl.1 rfl (Nat.le_of_ble_eq_true rfl) (Nat.le_of_ble_eq_true rfl) (Nat.le_of_ble_eq_true rfl) dX10_lamp_8 (fun H locs hW => ?_)
  refine lv_if_eq (tgt := 23) C.1 C.2.1 dX10_lamp_11 rfl (fun c5 => ?_) (fun c5 => ?_)
  · have hf := (if_pos c5).symm.trans hf
    refine lv_iconst C.1 C.2.1 dX10_lamp_23 ic_m1 ?_
    cases hf
    exact m_iret C hW dX10_lamp_24
  · have hf := (if_neg c5).symm.trans hf
    refine lv_iload_n C.1 C.2.1 dX10_lamp_14 rfl (lv_at hl 2 rfl) ?_
    refine lv_if_lt (tgt := 23) C.1 C.2.1 dX10_lamp_15 rfl (fun c6 => ?_) (fun c6 => ?_)
    · have hf := (if_pos c6).symm.trans hf
      refine lv_iconst C.1 C.2.1 dX10_lamp_23 ic_m1 ?_
      cases hf
      exact m_iret C hW dX10_lamp_24
    · have hf := (if_neg c6).symm.trans hf
      refine lv_iload_n C.1 C.2.1 dX10_lamp_18 rfl (lv_at hl 2 rfl) ?_
      refine lv_iconst C.1 C.2.1 dX10_lamp_19 ic_3 ?_
      refine lv_icmp_le (tgt := 25) C.1 C.2.1 dX10_lamp_20 rfl (fun c7 => ?_) (fun c7 => ?_)
      · have hf := (if_pos c7).symm.trans hf
        refine lv_iload_n C.1 C.2.1 dX10_lamp_25 rfl (lv_at hl 2 rfl) ?_
        refine lv_iconst C.1 C.2.1 dX10_lamp_26 ic_3 ?_
        refine lv_icmp_ne (tgt := 42) C.1 C.2.1 dX10_lamp_27 rfl (fun c8 => ?_) (fun c8 => ?_)
        · have hf := (if_neg c8).symm.trans hf
          refine lv_aload_n C.1 C.2.1 dX10_lamp_42 rfl (lv_at hl 0 rfl) ?_
          refine m_getr C hW ha0 flX10_16 (by decide) dX10_lamp_43 (fun hk9 => ?_)
          refine m_getr C hW hk9 flX10_141 (by decide) dX10_lamp_46 (fun hk10 => ?_)
          refine lv_iload_n C.1 C.2.1 dX10_lamp_49 rfl (lv_at hl 1 rfl) ?_
          refine lv_iconst C.1 C.2.1 dX10_lamp_50 ic_1 ?_
          refine lv_iload_n C.1 C.2.1 dX10_lamp_51 rfl (lv_at hl 2 rfl) ?_
          refine lv_iadd C.1 C.2.1 dX10_lamp_52 ?_
          obtain ⟨q11, h12, hf⟩ := bd hf
          refine m_callV (As := [.int a1, .int ((1 : Int32) + a2)]) (rest := []) C hW hk10 (cX7_get_ok  hk10 h12) mlX10_198 (by decide) rfl hl.1 rfl (Nat.le_of_ble_eq_true rfl) (Nat.le_of_ble_eq_true rfl) (Nat.le_of_ble_eq_true rfl) dX10_lamp_53 (fun H locs hW => ?_)
          cases hf
          exact m_iret C hW dX10_lamp_56
        · have hf := (if_pos c8).symm.trans hf
          refine lv_aload_n C.1 C.2.1 dX10_lamp_30 rfl (lv_at hl 0 rfl) ?_
          refine m_getr C hW ha0 flX10_72 (by decide) dX10_lamp_31 (fun hk13 => ?_)
          refine m_geti C hW hk13 flX10_218 dX10_lamp_34 ?_
          refine lv_iload_n C.1 C.2.1 dX10_lamp_37 rfl (lv_at hl 1 rfl) ?_
          refine lv_ishr C.1 C.2.1 dX10_lamp_38 ?_
          refine lv_iconst C.1 C.2.1 dX10_lamp_39 ic_1 ?_
          refine lv_iand C.1 C.2.1 dX10_lamp_40 ?_
          cases hf
          exact m_iret C hW dX10_lamp_41
      · have hf := (if_neg c7).symm.trans hf
        refine lv_iconst C.1 C.2.1 dX10_lamp_23 ic_m1 ?_
        cases hf
        exact m_iret C hW dX10_lamp_24

def fX10_undo (a0 : Nat) (S : MS) : Option (Int32 × MS) := (fX2_takeBack  (gR S a0 7) (gR S a0 9) S).bind fun q3 => some (q3.1, q3.2)
set_option maxRecDepth 100000 in
theorem cX10_undo_ok {l : Launch} {G : Gv} {L : List Nat} {S : MS} {a0 : Nat} {q : (Int32 × MS)} (ha0 : a0 < shX.1 ∧ shX.2.1 a0 = 10) (hf : fX10_undo a0 S = some q) : Mt l yX10_undo cX10_undo 1 (some .int) (2) G shX L S [.ref (ad L a0)] (some (.int q.1)) q.2 := by
  refine m_enter (lv := [(0, .ref (ad L a0))]) (plainFor_of_name (by decide)) (Nat.le_of_ble_eq_true rfl) rfl ?_
  intro p e s m below meth c A ls C hW hl
  unfold fX10_undo at hf
  refine lv_aload_n C.1 C.2.1 dX10_undo_0 rfl (lv_at hl 0 rfl) ?_
  refine m_getr C hW ha0 flX10_58 (by decide) dX10_undo_1 (fun hk1 => ?_)
  refine lv_aload_n C.1 C.2.1 dX10_undo_4 rfl (lv_at hl 0 rfl) ?_
  refine m_getr C hW ha0 flX10_72 (by decide) dX10_undo_5 (fun hk2 => ?_)
  obtain ⟨q3, h4, hf⟩ := bd hf
  refine m_callV (As := [.ref (ad L (gR S a0 9))]) (rest := []) C hW hk1 (cX2_takeBack_ok  hk1 hk2 h4) mlX10_361 (by decide) rfl hl.1 rfl (Nat.le_of_ble_eq_true rfl) (Nat.le_of_ble_eq_true rfl) (Nat.le_of_ble_eq_true rfl) dX10_undo_8 (fun H locs hW => ?_)
  cases hf
  exact m_iret C hW dX10_undo_11

def fX10_keep (a0 : Nat) (S : MS) : Option (Int32 × MS) := (fX9_become  (gR S a0 10) (gR S a0 9) S).bind fun q3 => some (gI (pI q3 a0 15 (1 : Int32)) (gR (pI q3 a0 15 (1 : Int32)) a0 9) 3, pI q3 a0 15 (1 : Int32))
set_option maxRecDepth 100000 in
theorem cX10_keep_ok {l : Launch} {G : Gv} {L : List Nat} {S : MS} {a0 : Nat} {q : (Int32 × MS)} (ha0 : a0 < shX.1 ∧ shX.2.1 a0 = 10) (hf : fX10_keep a0 S = some q) : Mt l yX10_keep cX10_keep 1 (some .int) (2) G shX L S [.ref (ad L a0)] (some (.int q.1)) q.2 := by
  refine m_enter (lv := [(0, .ref (ad L a0))]) (plainFor_of_name (by decide)) (Nat.le_of_ble_eq_true rfl) rfl ?_
  intro p e s m below meth c A ls C hW hl
  unfold fX10_keep at hf
  refine lv_aload_n C.1 C.2.1 dX10_keep_0 rfl (lv_at hl 0 rfl) ?_
  refine m_getr C hW ha0 flX10_76 (by decide) dX10_keep_1 (fun hk1 => ?_)
  refine lv_aload_n C.1 C.2.1 dX10_keep_4 rfl (lv_at hl 0 rfl) ?_
  refine m_getr C hW ha0 flX10_72 (by decide) dX10_keep_5 (fun hk2 => ?_)
  obtain ⟨q3, h4, hf⟩ := bd hf
  refine m_callV (As := [.ref (ad L (gR S a0 9))]) (rest := []) C hW hk1 (cX9_become_ok  hk1 hk2 h4) mlX10_264 (by decide) rfl hl.1 rfl (Nat.le_of_ble_eq_true rfl) (Nat.le_of_ble_eq_true rfl) (Nat.le_of_ble_eq_true rfl) dX10_keep_8 (fun H locs hW => ?_)
  refine lv_aload_n C.1 C.2.1 dX10_keep_11 rfl (lv_at hl 0 rfl) ?_
  refine lv_iconst C.1 C.2.1 dX10_keep_12 ic_1 ?_
  refine m_putz C hW ha0 fpX10_133 rfl dX10_keep_13 (fun H locs hW => ?_)
  refine lv_aload_n C.1 C.2.1 dX10_keep_16 rfl (lv_at hl 0 rfl) ?_
  refine m_getr C hW ha0 flX10_72 (by decide) dX10_keep_17 (fun hk5 => ?_)
  refine m_geti C hW hk5 flX10_258 dX10_keep_20 ?_
  cases hf
  exact m_iret C hW dX10_keep_23

def fX10_back (a0 : Nat) (S : MS) : Option (Int32 × MS) := (if gI S a0 15 = (0 : Int32) then some ((-1 : Int32), S) else (fX9_become  (gR S a0 9) (gR S a0 10) S).bind fun q4 => (fX2_forget  (gR q4 a0 7) q4).bind fun q7 => some (gI q7 (gR q7 a0 9) 3, q7))
set_option maxRecDepth 100000 in
theorem cX10_back_ok {l : Launch} {G : Gv} {L : List Nat} {S : MS} {a0 : Nat} {q : (Int32 × MS)} (ha0 : a0 < shX.1 ∧ shX.2.1 a0 = 10) (hf : fX10_back a0 S = some q) : Mt l yX10_back cX10_back 1 (some .int) (2) G shX L S [.ref (ad L a0)] (some (.int q.1)) q.2 := by
  refine m_enter (lv := [(0, .ref (ad L a0))]) (plainFor_of_name (by decide)) (Nat.le_of_ble_eq_true rfl) rfl ?_
  intro p e s m below meth c A ls C hW hl
  unfold fX10_back at hf
  refine lv_aload_n C.1 C.2.1 dX10_back_0 rfl (lv_at hl 0 rfl) ?_
  refine m_geti C hW ha0 flX10_133 dX10_back_1 ?_
  refine lv_if_ne (tgt := 9) C.1 C.2.1 dX10_back_4 rfl (fun c1 => ?_) (fun c1 => ?_)
  · have hf := (if_neg c1).symm.trans hf
    refine lv_aload_n C.1 C.2.1 dX10_back_9 rfl (lv_at hl 0 rfl) ?_
    refine m_getr C hW ha0 flX10_72 (by decide) dX10_back_10 (fun hk2 => ?_)
    refine lv_aload_n C.1 C.2.1 dX10_back_13 rfl (lv_at hl 0 rfl) ?_
    refine m_getr C hW ha0 flX10_76 (by decide) dX10_back_14 (fun hk3 => ?_)
    obtain ⟨q4, h5, hf⟩ := bd hf
    refine m_callV (As := [.ref (ad L (gR S a0 10))]) (rest := []) C hW hk2 (cX9_become_ok  hk2 hk3 h5) mlX10_264 (by decide) rfl hl.1 rfl (Nat.le_of_ble_eq_true rfl) (Nat.le_of_ble_eq_true rfl) (Nat.le_of_ble_eq_true rfl) dX10_back_17 (fun H locs hW => ?_)
    refine lv_aload_n C.1 C.2.1 dX10_back_20 rfl (lv_at hl 0 rfl) ?_
    refine m_getr C hW ha0 flX10_58 (by decide) dX10_back_21 (fun hk6 => ?_)
    obtain ⟨q7, h8, hf⟩ := bd hf
    refine m_callV (As := []) (rest := []) C hW hk6 (cX2_forget_ok  hk6 h8) mlX10_137 (by decide) rfl hl.1 rfl (Nat.le_of_ble_eq_true rfl) (Nat.le_of_ble_eq_true rfl) (Nat.le_of_ble_eq_true rfl) dX10_back_24 (fun H locs hW => ?_)
    refine lv_aload_n C.1 C.2.1 dX10_back_27 rfl (lv_at hl 0 rfl) ?_
    refine m_getr C hW ha0 flX10_72 (by decide) dX10_back_28 (fun hk9 => ?_)
    refine m_geti C hW hk9 flX10_258 dX10_back_31 ?_
    cases hf
    exact m_iret C hW dX10_back_34
  · have hf := (if_pos c1).symm.trans hf
    refine lv_iconst C.1 C.2.1 dX10_back_7 ic_m1 ?_
    cases hf
    exact m_iret C hW dX10_back_8

def fX0_areClouds_67  (x0 : Nat) (S : MS) : Option (Int32 × MS) := (if gI S (gR S x0 1) 13 = (100 : Int32) then some ((1 : Int32), S) else some ((0 : Int32), S))
def fX0_areClouds (a0 : Nat) (a1 : Nat) (a2 : Int32) (S : MS) : Option (Int32 × MS) := (if a2 &&& (2 : Int32) = (0 : Int32) then (if a2 &&& (1 : Int32) = (0 : Int32) then (if (gI S (gR S a0 1) 13) < (50 : Int32) then some ((0 : Int32), S) else some ((1 : Int32), S)) else (if gI S (gR S a0 1) 13 = (0 : Int32) then fX0_areClouds_67  a0 S else (if gI S (gR S a0 1) 13 = (100 : Int32) then fX0_areClouds_67  a0 S else (fX7_size  (gR S (gR S a0 1) 2) S).bind fun q11 => (if q11 = (0 : Int32) then fX0_areClouds_67  a0 S else (if (gI (pI S a1 11 ((((((gI S a1 11).toInt64) * (1103515245 : Int64)) + (12345 : Int64)) &&& (2147483647 : Int64)).toInt32)) (gR (pI S a1 11 ((((((gI S a1 11).toInt64) * (1103515245 : Int64)) + (12345 : Int64)) &&& (2147483647 : Int64)).toInt32)) a0 1) 13) ≤ (((gI (pI S a1 11 ((((((gI S a1 11).toInt64) * (1103515245 : Int64)) + (12345 : Int64)) &&& (2147483647 : Int64)).toInt32)) a1 11) / (65536 : Int32)) - (((gI (pI S a1 11 ((((((gI S a1 11).toInt64) * (1103515245 : Int64)) + (12345 : Int64)) &&& (2147483647 : Int64)).toInt32)) a1 11) / (65536 : Int32)) / (100 : Int32)) * (100 : Int32)) then some ((0 : Int32), pI S a1 11 ((((((gI S a1 11).toInt64) * (1103515245 : Int64)) + (12345 : Int64)) &&& (2147483647 : Int64)).toInt32)) else some ((1 : Int32), pI S a1 11 ((((((gI S a1 11).toInt64) * (1103515245 : Int64)) + (12345 : Int64)) &&& (2147483647 : Int64)).toInt32))))))) else some ((0 : Int32), S))
set_option maxRecDepth 100000 in
theorem kX0_areClouds_67 {p : Program} {l : Launch} {e : Env} {s : State} {m : MethodId} {av : Array Value} {below : List Frame} {meth : Method} {c : Code} {A : Nat → Prop} {G : Gv} {L : List Nat} {q : (Int32 × MS)}  (C : mC p s m av meth c cX0_areClouds RX0 3 (some .boolean)) : ∀ (x0 : Nat) (S : MS) (H : Heap) (locs : List Loc) (ls : Array Slot), (x0 < shX.1 ∧ shX.2.1 x0 = 0) → mW G shX L S A s H locs → lv_has ls 3 [(0, .ref (ad L x0))] → fX0_areClouds_67  x0 S = some q → W p l e (rmd (2)) s m av below meth c H locs 0 0 (MQ below (mQ G shX L q.2 (some (.int q.1)) A) av s 0 0 A) (F0 m 67 ls []) := by
  intro x0 S H locs ls hx0 hW hl hf
  unfold fX0_areClouds_67 at hf
  refine lv_aload_n C.1 C.2.1 dX0_areClouds_67 rfl (lv_at hl 0 rfl) ?_
  refine m_getr C hW hx0 flX0_15 (by decide) dX0_areClouds_68 (fun hk1 => ?_)
  refine m_geti C hW hk1 flX0_74 dX0_areClouds_71 ?_
  refine lv_bipush C.1 C.2.1 dX0_areClouds_74 bp_100 ?_
  refine lv_icmp_ne (tgt := 83) C.1 C.2.1 dX0_areClouds_76 rfl (fun c2 => ?_) (fun c2 => ?_)
  · have hf := (if_neg c2).symm.trans hf
    refine lv_iconst C.1 C.2.1 dX0_areClouds_83 ic_0 ?_
    cases hf
    exact m_zret C hW rfl dX0_areClouds_84
  · have hf := (if_pos c2).symm.trans hf
    refine lv_iconst C.1 C.2.1 dX0_areClouds_79 ic_1 ?_
    refine lv_goto (tgt := 84) C.1 C.2.1 dX0_areClouds_80 rfl ?_
    cases hf
    exact m_zret C hW rfl dX0_areClouds_84

set_option maxRecDepth 100000 in
theorem cX0_areClouds_ok {l : Launch} {G : Gv} {L : List Nat} {S : MS} {a0 : Nat} {a1 : Nat} {a2 : Int32} {q : (Int32 × MS)} (ha0 : a0 < shX.1 ∧ shX.2.1 a0 = 0) (ha1 : a1 < shX.1 ∧ shX.2.1 a1 = 9) (hf : fX0_areClouds a0 a1 a2 S = some q) : Mt l yX0_areClouds cX0_areClouds 3 (some .boolean) (2) G shX L S [.ref (ad L a0), .ref (ad L a1), .int a2] (some (.int q.1)) q.2 := by
  refine m_enter (lv := [(0, .ref (ad L a0)), (1, .ref (ad L a1)), (2, .int a2)]) (plainFor_of_name (by decide)) (Nat.le_of_ble_eq_true rfl) rfl ?_
  intro p e s m below meth c A ls C hW hl
  unfold fX0_areClouds at hf
  refine lv_iload_n C.1 C.2.1 dX0_areClouds_0 rfl (lv_at hl 2 rfl) ?_
  refine lv_iconst C.1 C.2.1 dX0_areClouds_1 ic_2 ?_
  refine lv_iand C.1 C.2.1 dX0_areClouds_2 ?_
  refine lv_if_eq (tgt := 8) C.1 C.2.1 dX0_areClouds_3 rfl (fun c3 => ?_) (fun c3 => ?_)
  · have hf := (if_pos c3).symm.trans hf
    refine lv_iload_n C.1 C.2.1 dX0_areClouds_8 rfl (lv_at hl 2 rfl) ?_
    refine lv_iconst C.1 C.2.1 dX0_areClouds_9 ic_1 ?_
    refine lv_iand C.1 C.2.1 dX0_areClouds_10 ?_
    refine lv_if_ne (tgt := 32) C.1 C.2.1 dX0_areClouds_11 rfl (fun c4 => ?_) (fun c4 => ?_)
    · have hf := (if_neg c4).symm.trans hf
      refine lv_aload_n C.1 C.2.1 dX0_areClouds_32 rfl (lv_at hl 0 rfl) ?_
      refine m_getr C hW ha0 flX0_15 (by decide) dX0_areClouds_33 (fun hk5 => ?_)
      refine m_geti C hW hk5 flX0_74 dX0_areClouds_36 ?_
      refine lv_if_eq (tgt := 67) C.1 C.2.1 dX0_areClouds_39 rfl (fun c6 => ?_) (fun c6 => ?_)
      · have hf := (if_pos c6).symm.trans hf
        exact kX0_areClouds_67  C a0 _ _ _ _ ha0 hW (lv_sub hl [0] rfl) hf
      · have hf := (if_neg c6).symm.trans hf
        refine lv_aload_n C.1 C.2.1 dX0_areClouds_42 rfl (lv_at hl 0 rfl) ?_
        refine m_getr C hW ha0 flX0_15 (by decide) dX0_areClouds_43 (fun hk7 => ?_)
        refine m_geti C hW hk7 flX0_74 dX0_areClouds_46 ?_
        refine lv_bipush C.1 C.2.1 dX0_areClouds_49 bp_100 ?_
        refine lv_icmp_eq (tgt := 67) C.1 C.2.1 dX0_areClouds_51 rfl (fun c8 => ?_) (fun c8 => ?_)
        · have hf := (if_pos c8).symm.trans hf
          exact kX0_areClouds_67  C a0 _ _ _ _ ha0 hW (lv_sub hl [0] rfl) hf
        · have hf := (if_neg c8).symm.trans hf
          refine lv_aload_n C.1 C.2.1 dX0_areClouds_54 rfl (lv_at hl 0 rfl) ?_
          refine m_getr C hW ha0 flX0_15 (by decide) dX0_areClouds_55 (fun hk9 => ?_)
          refine m_getr C hW hk9 flX0_77 (by decide) dX0_areClouds_58 (fun hk10 => ?_)
          obtain ⟨q11, h12, hf⟩ := bd hf
          refine m_callV (As := []) (rest := []) C hW hk10 (cX7_size_ok  hk10 h12) mlX0_33 (by decide) rfl hl.1 rfl (Nat.le_of_ble_eq_true rfl) (Nat.le_of_ble_eq_true rfl) (Nat.le_of_ble_eq_true rfl) dX0_areClouds_61 (fun H locs hW => ?_)
          refine lv_if_ne (tgt := 85) C.1 C.2.1 dX0_areClouds_64 rfl (fun c13 => ?_) (fun c13 => ?_)
          · have hf := (if_neg c13).symm.trans hf
            refine lv_aload_n C.1 C.2.1 dX0_areClouds_85 rfl (lv_at hl 1 rfl) ?_
            refine lv_aload_n C.1 C.2.1 dX0_areClouds_86 rfl (lv_at hl 1 rfl) ?_
            refine m_geti C hW ha1 flX0_80 dX0_areClouds_87 ?_
            refine lv_i2l C.1 C.2.1 dX0_areClouds_90 rfl ?_
            refine lv_ldc2 C.1 C.2.1 C.2.2.2.1 (C.2.2.2.2.1 _ kw_1057) dX0_areClouds_91 ?_
            refine lv_lmul C.1 C.2.1 dX0_areClouds_94 ?_
            refine lv_ldc2 C.1 C.2.1 C.2.2.2.1 (C.2.2.2.2.1 _ kw_1058) dX0_areClouds_95 ?_
            refine lv_ladd C.1 C.2.1 dX0_areClouds_98 ?_
            refine lv_ldc2 C.1 C.2.1 C.2.2.2.1 (C.2.2.2.2.1 _ kw_1059) dX0_areClouds_99 ?_
            refine lv_land C.1 C.2.1 dX0_areClouds_102 ?_
            refine lv_l2i C.1 C.2.1 dX0_areClouds_103 rfl ?_
            refine m_puti C hW ha1 fpX0_80 dX0_areClouds_104 (fun H locs hW => ?_)
            refine lv_aload_n C.1 C.2.1 dX0_areClouds_107 rfl (lv_at hl 1 rfl) ?_
            refine m_geti C hW ha1 flX0_80 dX0_areClouds_108 ?_
            refine lv_ldc C.1 C.2.1 C.2.2.2.1 (C.2.2.2.2.1 _ kw_1060) dX0_areClouds_111 ?_
            refine lv_idiv C.1 C.2.1 dX0_areClouds_113 (by decide) ?_
            refine lv_bipush C.1 C.2.1 dX0_areClouds_114 bp_100 ?_
            refine lv_irem C.1 C.2.1 dX0_areClouds_116 (by decide) ?_
            refine lv_aload_n C.1 C.2.1 dX0_areClouds_117 rfl (lv_at hl 0 rfl) ?_
            refine m_getr C hW ha0 flX0_15 (by decide) dX0_areClouds_118 (fun hk14 => ?_)
            refine m_geti C hW hk14 flX0_74 dX0_areClouds_121 ?_
            refine lv_icmp_ge (tgt := 131) C.1 C.2.1 dX0_areClouds_124 rfl (fun c15 => ?_) (fun c15 => ?_)
            · have hf := (if_pos c15).symm.trans hf
              refine lv_iconst C.1 C.2.1 dX0_areClouds_131 ic_0 ?_
              cases hf
              exact m_zret C hW rfl dX0_areClouds_132
            · have hf := (if_neg c15).symm.trans hf
              refine lv_iconst C.1 C.2.1 dX0_areClouds_127 ic_1 ?_
              refine lv_goto (tgt := 132) C.1 C.2.1 dX0_areClouds_128 rfl ?_
              cases hf
              exact m_zret C hW rfl dX0_areClouds_132
          · have hf := (if_pos c13).symm.trans hf
            exact kX0_areClouds_67  C a0 _ _ _ _ ha0 hW (lv_sub hl [0] rfl) hf
    · have hf := (if_pos c4).symm.trans hf
      refine lv_aload_n C.1 C.2.1 dX0_areClouds_14 rfl (lv_at hl 0 rfl) ?_
      refine m_getr C hW ha0 flX0_15 (by decide) dX0_areClouds_15 (fun hk16 => ?_)
      refine m_geti C hW hk16 flX0_74 dX0_areClouds_18 ?_
      refine lv_bipush C.1 C.2.1 dX0_areClouds_21 bp_50 ?_
      refine lv_icmp_lt (tgt := 30) C.1 C.2.1 dX0_areClouds_23 rfl (fun c17 => ?_) (fun c17 => ?_)
      · have hf := (if_pos c17).symm.trans hf
        refine lv_iconst C.1 C.2.1 dX0_areClouds_30 ic_0 ?_
        cases hf
        exact m_zret C hW rfl dX0_areClouds_31
      · have hf := (if_neg c17).symm.trans hf
        refine lv_iconst C.1 C.2.1 dX0_areClouds_26 ic_1 ?_
        refine lv_goto (tgt := 31) C.1 C.2.1 dX0_areClouds_27 rfl ?_
        cases hf
        exact m_zret C hW rfl dX0_areClouds_31
  · have hf := (if_neg c3).symm.trans hf
    refine lv_iconst C.1 C.2.1 dX0_areClouds_6 ic_0 ?_
    cases hf
    exact m_zret C hW rfl dX0_areClouds_7

def fX0_distance (a0 : Nat) (a1 : Nat) (a2 : Int32) (S : MS) : Option Int32 := (fX7_get  (gR S (gR S a0 1) 3) a2 (1 : Int32) S).bind fun q3 => (fX7_get  (gR S (gR S a0 1) 3) a2 (2 : Int32) S).bind fun q7 => some ((if 0 ≤ ((gI S a1 4) - q3) then ((gI S a1 4) - q3) else 0 - ((gI S a1 4) - q3)) + (if 0 ≤ ((gI S a1 5) - q7) then ((gI S a1 5) - q7) else 0 - ((gI S a1 5) - q7)))
set_option maxRecDepth 100000 in
theorem cX0_distance_ok {l : Launch} {G : Gv} {L : List Nat} {S : MS} {a0 : Nat} {a1 : Nat} {a2 : Int32} {q : Int32} (ha0 : a0 < shX.1 ∧ shX.2.1 a0 = 0) (ha1 : a1 < shX.1 ∧ shX.2.1 a1 = 9) (hf : fX0_distance a0 a1 a2 S = some q) : Mt l yX0_distance cX0_distance 3 (some .int) (2) G shX L S [.ref (ad L a0), .ref (ad L a1), .int a2] (some (.int q)) S := by
  refine m_enter (lv := [(0, .ref (ad L a0)), (1, .ref (ad L a1)), (2, .int a2)]) (plainFor_of_name (by decide)) (Nat.le_of_ble_eq_true rfl) rfl ?_
  intro p e s m below meth c A ls C hW hl
  unfold fX0_distance at hf
  refine lv_aload_n C.1 C.2.1 dX0_distance_0 rfl (lv_at hl 1 rfl) ?_
  refine m_geti C hW ha1 flX0_97 dX0_distance_1 ?_
  refine lv_aload_n C.1 C.2.1 dX0_distance_4 rfl (lv_at hl 0 rfl) ?_
  refine m_getr C hW ha0 flX0_15 (by decide) dX0_distance_5 (fun hk1 => ?_)
  refine m_getr C hW hk1 flX0_169 (by decide) dX0_distance_8 (fun hk2 => ?_)
  refine lv_iload_n C.1 C.2.1 dX0_distance_11 rfl (lv_at hl 2 rfl) ?_
  refine lv_iconst C.1 C.2.1 dX0_distance_12 ic_1 ?_
  obtain ⟨q3, h4, hf⟩ := bd hf
  refine m_callV (As := [.int a2, .int (1 : Int32)]) (rest := [.int (gI S a1 4)]) C hW hk2 (cX7_get_ok  hk2 h4) mlX0_39 (by decide) rfl hl.1 rfl (Nat.le_of_ble_eq_true rfl) (Nat.le_of_ble_eq_true rfl) (Nat.le_of_ble_eq_true rfl) dX0_distance_13 (fun H locs hW => ?_)
  refine lv_isub C.1 C.2.1 dX0_distance_16 ?_
  refine va_mabs C.1 C.2.1 (C.2.2.1.trans hl.1.symm) C.2.2.2.1 (C.2.2.2.2.1 _ kw_909) (C.2.2.2.2.1 _ kw_910) (C.2.2.2.2.1 _ kw_135) (C.2.2.2.2.1 _ kw_911) (Nat.le_of_ble_eq_true rfl) (Nat.le_of_ble_eq_true rfl) (Nat.le_refl 0) (Nat.le_refl 0) dX0_distance_17 ?_
  refine lv_aload_n C.1 C.2.1 dX0_distance_20 rfl (lv_at hl 1 rfl) ?_
  refine m_geti C hW ha1 flX0_104 dX0_distance_21 ?_
  refine lv_aload_n C.1 C.2.1 dX0_distance_24 rfl (lv_at hl 0 rfl) ?_
  refine m_getr C hW ha0 flX0_15 (by decide) dX0_distance_25 (fun hk5 => ?_)
  refine m_getr C hW hk5 flX0_169 (by decide) dX0_distance_28 (fun hk6 => ?_)
  refine lv_iload_n C.1 C.2.1 dX0_distance_31 rfl (lv_at hl 2 rfl) ?_
  refine lv_iconst C.1 C.2.1 dX0_distance_32 ic_2 ?_
  obtain ⟨q7, h8, hf⟩ := bd hf
  refine m_callV (As := [.int a2, .int (2 : Int32)]) (rest := [.int (gI S a1 5), .int (if 0 ≤ ((gI S a1 4) - q3) then ((gI S a1 4) - q3) else 0 - ((gI S a1 4) - q3))]) C hW hk6 (cX7_get_ok  hk6 h8) mlX0_39 (by decide) rfl hl.1 rfl (Nat.le_of_ble_eq_true rfl) (Nat.le_of_ble_eq_true rfl) (Nat.le_of_ble_eq_true rfl) dX0_distance_33 (fun H locs hW => ?_)
  refine lv_isub C.1 C.2.1 dX0_distance_36 ?_
  refine va_mabs C.1 C.2.1 (C.2.2.1.trans hl.1.symm) C.2.2.2.1 (C.2.2.2.2.1 _ kw_909) (C.2.2.2.2.1 _ kw_910) (C.2.2.2.2.1 _ kw_135) (C.2.2.2.2.1 _ kw_911) (Nat.le_of_ble_eq_true rfl) (Nat.le_of_ble_eq_true rfl) (Nat.le_refl 0) (Nat.le_refl 0) dX0_distance_37 ?_
  refine lv_iadd C.1 C.2.1 dX0_distance_40 ?_
  cases hf
  exact m_iret C hW dX0_distance_41

def fX0_wayFrom (a0 : Nat) (a1 : Nat) (a2 : Int32) (S : MS) : Option Int32 := (fX7_get  (gR S (gR S a0 1) 3) a2 (1 : Int32) S).bind fun q3 => (fX7_get  (gR S (gR S a0 1) 3) a2 (2 : Int32) S).bind fun q7 => (if (if 0 ≤ ((gI S a1 4) - q3) then ((gI S a1 4) - q3) else 0 - ((gI S a1 4) - q3)) < (if 0 ≤ ((gI S a1 5) - q7) then ((gI S a1 5) - q7) else 0 - ((gI S a1 5) - q7)) then (if (0 : Int32) ≤ ((gI S a1 5) - q7) then some (1 : Int32) else some (3 : Int32)) else (if (0 : Int32) ≤ ((gI S a1 4) - q3) then some (2 : Int32) else some (0 : Int32)))
set_option maxRecDepth 100000 in
theorem cX0_wayFrom_ok {l : Launch} {G : Gv} {L : List Nat} {S : MS} {a0 : Nat} {a1 : Nat} {a2 : Int32} {q : Int32} (ha0 : a0 < shX.1 ∧ shX.2.1 a0 = 0) (ha1 : a1 < shX.1 ∧ shX.2.1 a1 = 9) (hf : fX0_wayFrom a0 a1 a2 S = some q) : Mt l yX0_wayFrom cX0_wayFrom 5 (some .int) (2) G shX L S [.ref (ad L a0), .ref (ad L a1), .int a2] (some (.int q)) S := by
  refine m_enter (lv := [(0, .ref (ad L a0)), (1, .ref (ad L a1)), (2, .int a2)]) (plainFor_of_name (by decide)) (Nat.le_of_ble_eq_true rfl) rfl ?_
  intro p e s m below meth c A ls C hW hl
  unfold fX0_wayFrom at hf
  refine lv_aload_n C.1 C.2.1 dX0_wayFrom_0 rfl (lv_at hl 1 rfl) ?_
  refine m_geti C hW ha1 flX0_97 dX0_wayFrom_1 ?_
  refine lv_aload_n C.1 C.2.1 dX0_wayFrom_4 rfl (lv_at hl 0 rfl) ?_
  refine m_getr C hW ha0 flX0_15 (by decide) dX0_wayFrom_5 (fun hk1 => ?_)
  refine m_getr C hW hk1 flX0_169 (by decide) dX0_wayFrom_8 (fun hk2 => ?_)
  refine lv_iload_n C.1 C.2.1 dX0_wayFrom_11 rfl (lv_at hl 2 rfl) ?_
  refine lv_iconst C.1 C.2.1 dX0_wayFrom_12 ic_1 ?_
  obtain ⟨q3, h4, hf⟩ := bd hf
  refine m_callV (As := [.int a2, .int (1 : Int32)]) (rest := [.int (gI S a1 4)]) C hW hk2 (cX7_get_ok  hk2 h4) mlX0_39 (by decide) rfl hl.1 rfl (Nat.le_of_ble_eq_true rfl) (Nat.le_of_ble_eq_true rfl) (Nat.le_of_ble_eq_true rfl) dX0_wayFrom_13 (fun H locs hW => ?_)
  refine lv_isub C.1 C.2.1 dX0_wayFrom_16 ?_
  refine lv_istore_n (lv' := [(3, .int ((gI S a1 4) - q3)), (0, .ref (ad L a0)), (1, .ref (ad L a1)), (2, .int a2)]) C.1 C.2.1 dX0_wayFrom_17 rfl hl (by decide) rfl (fun ls hl => ?_)
  refine lv_aload_n C.1 C.2.1 dX0_wayFrom_18 rfl (lv_at hl 2 rfl) ?_
  refine m_geti C hW ha1 flX0_104 dX0_wayFrom_19 ?_
  refine lv_aload_n C.1 C.2.1 dX0_wayFrom_22 rfl (lv_at hl 1 rfl) ?_
  refine m_getr C hW ha0 flX0_15 (by decide) dX0_wayFrom_23 (fun hk5 => ?_)
  refine m_getr C hW hk5 flX0_169 (by decide) dX0_wayFrom_26 (fun hk6 => ?_)
  refine lv_iload_n C.1 C.2.1 dX0_wayFrom_29 rfl (lv_at hl 3 rfl) ?_
  refine lv_iconst C.1 C.2.1 dX0_wayFrom_30 ic_2 ?_
  obtain ⟨q7, h8, hf⟩ := bd hf
  refine m_callV (As := [.int a2, .int (2 : Int32)]) (rest := [.int (gI S a1 5)]) C hW hk6 (cX7_get_ok  hk6 h8) mlX0_39 (by decide) rfl hl.1 rfl (Nat.le_of_ble_eq_true rfl) (Nat.le_of_ble_eq_true rfl) (Nat.le_of_ble_eq_true rfl) dX0_wayFrom_31 (fun H locs hW => ?_)
  refine lv_isub C.1 C.2.1 dX0_wayFrom_34 ?_
  refine lv_istore (lv' := [(4, .int ((gI S a1 5) - q7)), (3, .int ((gI S a1 4) - q3)), (0, .ref (ad L a0)), (1, .ref (ad L a1)), (2, .int a2)]) C.1 C.2.1 dX0_wayFrom_35 hl (by decide) rfl (fun ls hl => ?_)
  refine lv_iload_n C.1 C.2.1 dX0_wayFrom_37 rfl (lv_at hl 1 rfl) ?_
  refine va_mabs C.1 C.2.1 (C.2.2.1.trans hl.1.symm) C.2.2.2.1 (C.2.2.2.2.1 _ kw_909) (C.2.2.2.2.1 _ kw_910) (C.2.2.2.2.1 _ kw_135) (C.2.2.2.2.1 _ kw_911) (Nat.le_of_ble_eq_true rfl) (Nat.le_of_ble_eq_true rfl) (Nat.le_refl 0) (Nat.le_refl 0) dX0_wayFrom_38 ?_
  refine lv_iload C.1 C.2.1 dX0_wayFrom_41 (lv_at hl 0 rfl) ?_
  refine va_mabs C.1 C.2.1 (C.2.2.1.trans hl.1.symm) C.2.2.2.1 (C.2.2.2.2.1 _ kw_909) (C.2.2.2.2.1 _ kw_910) (C.2.2.2.2.1 _ kw_135) (C.2.2.2.2.1 _ kw_911) (Nat.le_of_ble_eq_true rfl) (Nat.le_of_ble_eq_true rfl) (Nat.le_refl 0) (Nat.le_refl 0) dX0_wayFrom_43 ?_
  refine lv_icmp_lt (tgt := 59) C.1 C.2.1 dX0_wayFrom_46 rfl (fun c9 => ?_) (fun c9 => ?_)
  · have hf := (if_pos c9).symm.trans hf
    refine lv_iload C.1 C.2.1 dX0_wayFrom_59 (lv_at hl 0 rfl) ?_
    refine lv_if_ge (tgt := 68) C.1 C.2.1 dX0_wayFrom_61 rfl (fun c10 => ?_) (fun c10 => ?_)
    · have hf := (if_pos c10).symm.trans hf
      refine lv_iconst C.1 C.2.1 dX0_wayFrom_68 ic_1 ?_
      cases hf
      exact m_iret C hW dX0_wayFrom_69
    · have hf := (if_neg c10).symm.trans hf
      refine lv_iconst C.1 C.2.1 dX0_wayFrom_64 ic_3 ?_
      refine lv_goto (tgt := 69) C.1 C.2.1 dX0_wayFrom_65 rfl ?_
      cases hf
      exact m_iret C hW dX0_wayFrom_69
  · have hf := (if_neg c9).symm.trans hf
    refine lv_iload_n C.1 C.2.1 dX0_wayFrom_49 rfl (lv_at hl 1 rfl) ?_
    refine lv_if_ge (tgt := 57) C.1 C.2.1 dX0_wayFrom_50 rfl (fun c11 => ?_) (fun c11 => ?_)
    · have hf := (if_pos c11).symm.trans hf
      refine lv_iconst C.1 C.2.1 dX0_wayFrom_57 ic_2 ?_
      cases hf
      exact m_iret C hW dX0_wayFrom_58
    · have hf := (if_neg c11).symm.trans hf
      refine lv_iconst C.1 C.2.1 dX0_wayFrom_53 ic_0 ?_
      refine lv_goto (tgt := 58) C.1 C.2.1 dX0_wayFrom_54 rfl ?_
      cases hf
      exact m_iret C hW dX0_wayFrom_58

def fX0_finishDoings_92 (K10 : Nat → Nat → Int32 → MS → Option MS) (x1 : Nat) (x2 : Nat) (x3 : Int32) (S : MS) : Option MS := K10 x1 x2 (x3 + (1 : Int32)) S
def fX0_finishDoings_80 (K10 : Nat → Nat → Int32 → MS → Option MS) (x1 : Nat) (x2 : Nat) (x3 : Int32) (S : MS) : Option MS := fX0_finishDoings_92 K10 x1 x2 x3 (pI S x1 8 ((gI S x1 8) ||| ((1 : Int32) <<< (x3 &&& 31))))
def fX0_finishDoings_48 (K10 : Nat → Nat → Int32 → MS → Option MS) (x1 : Nat) (x2 : Nat) (x3 : Int32) (x4 : Int32) (x5 : Int32) (y0 : Int32) (S : MS) : Option MS := (if y0 = (0 : Int32) then (fX9_isItApartAt  x1 x4 x5 S).bind fun q2 => (if q2 = (0 : Int32) then fX0_finishDoings_92 K10 x1 x2 x3 S else fX0_finishDoings_80 K10 x1 x2 x3 S) else (fX9_isSheAt  x1 x4 x5 S).bind fun q5 => (if q5 = (0 : Int32) then fX0_finishDoings_92 K10 x1 x2 x3 S else fX0_finishDoings_80 K10 x1 x2 x3 S))
def fX0_finishDoings_10  : Nat → Nat → Nat → Int32 → MS → Option MS
  | 0, _, _, _, _ => none
  | n + 1, x1, x2, x3, S => (fX7_size  x2 S).bind fun q8 => (if q8 ≤ x3 then some S else (fX7_get  x2 x3 (2 : Int32) S).bind fun q11 => (fX7_get  x2 x3 (3 : Int32) S).bind fun q13 => (fX7_get  x2 x3 (1 : Int32) S).bind fun q15 => (if q15 = (0 : Int32) then fX0_finishDoings_48 (fX0_finishDoings_10  n) x1 x2 x3 q11 q13 (1 : Int32) S else fX0_finishDoings_48 (fX0_finishDoings_10  n) x1 x2 x3 q11 q13 (0 : Int32) S))
def fX0_finishDoings (a0 : Nat) (a1 : Nat) (S : MS) : Option MS := fX0_finishDoings_10  1000 a1 (gR S (gR S a0 1) 5) (0 : Int32) S
set_option maxRecDepth 100000 in
theorem kX0_finishDoings_92 {p : Program} {l : Launch} {e : Env} {s : State} {m : MethodId} {av : Array Value} {below : List Frame} {meth : Method} {c : Code} {A : Nat → Prop} {G : Gv} {L : List Nat} {q : MS} {K10 : Nat → Nat → Int32 → MS → Option MS} (hK10 : ∀ (x1 : Nat) (x2 : Nat) (x3 : Int32) (S : MS) (H : Heap) (locs : List Loc) (ls : Array Slot), (x1 < shX.1 ∧ shX.2.1 x1 = 9) → (x2 < shX.1 ∧ shX.2.1 x2 = 7) → mW G shX L S A s H locs → lv_has ls 7 [(1, .ref (ad L x1)), (2, .ref (ad L x2)), (3, .int x3)] → K10 x1 x2 x3 S = some q → W p l e (rmd (2)) s m av below meth c H locs 0 0 (MQ below (mQ G shX L q none A) av s 0 0 A) (F0 m 10 ls [])) (C : mC p s m av meth c cX0_finishDoings RX0 7 none) : ∀ (x1 : Nat) (x2 : Nat) (x3 : Int32) (S : MS) (H : Heap) (locs : List Loc) (ls : Array Slot), (x1 < shX.1 ∧ shX.2.1 x1 = 9) → (x2 < shX.1 ∧ shX.2.1 x2 = 7) → mW G shX L S A s H locs → lv_has ls 7 [(1, .ref (ad L x1)), (2, .ref (ad L x2)), (3, .int x3)] → fX0_finishDoings_92 K10 x1 x2 x3 S = some q → W p l e (rmd (2)) s m av below meth c H locs 0 0 (MQ below (mQ G shX L q none A) av s 0 0 A) (F0 m 92 ls []) := by
  intro x1 x2 x3 S H locs ls hx1 hx2 hW hl hf
  unfold fX0_finishDoings_92 at hf
  refine lv_iinc (v := x3 + (1 : Int32)) (lv' := [(3, .int (x3 + (1 : Int32))), (1, .ref (ad L x1)), (2, .ref (ad L x2))]) C.1 C.2.1 dX0_finishDoings_92 hl (k := 2) rfl (congrArg (fun z => x3 + z) ic_1) (by decide) rfl (fun ls hl => ?_)
  refine lv_goto (tgt := 10) C.1 C.2.1 dX0_finishDoings_95 rfl ?_
  exact hK10 x1 x2 (x3 + (1 : Int32)) _ _ _ _ hx1 hx2 hW (lv_sub hl [1, 2, 0] rfl) hf

set_option maxRecDepth 100000 in
theorem kX0_finishDoings_80 {p : Program} {l : Launch} {e : Env} {s : State} {m : MethodId} {av : Array Value} {below : List Frame} {meth : Method} {c : Code} {A : Nat → Prop} {G : Gv} {L : List Nat} {q : MS} {K10 : Nat → Nat → Int32 → MS → Option MS} (hK10 : ∀ (x1 : Nat) (x2 : Nat) (x3 : Int32) (S : MS) (H : Heap) (locs : List Loc) (ls : Array Slot), (x1 < shX.1 ∧ shX.2.1 x1 = 9) → (x2 < shX.1 ∧ shX.2.1 x2 = 7) → mW G shX L S A s H locs → lv_has ls 7 [(1, .ref (ad L x1)), (2, .ref (ad L x2)), (3, .int x3)] → K10 x1 x2 x3 S = some q → W p l e (rmd (2)) s m av below meth c H locs 0 0 (MQ below (mQ G shX L q none A) av s 0 0 A) (F0 m 10 ls [])) (C : mC p s m av meth c cX0_finishDoings RX0 7 none) : ∀ (x1 : Nat) (x2 : Nat) (x3 : Int32) (S : MS) (H : Heap) (locs : List Loc) (ls : Array Slot), (x1 < shX.1 ∧ shX.2.1 x1 = 9) → (x2 < shX.1 ∧ shX.2.1 x2 = 7) → mW G shX L S A s H locs → lv_has ls 7 [(1, .ref (ad L x1)), (2, .ref (ad L x2)), (3, .int x3)] → fX0_finishDoings_80 K10 x1 x2 x3 S = some q → W p l e (rmd (2)) s m av below meth c H locs 0 0 (MQ below (mQ G shX L q none A) av s 0 0 A) (F0 m 80 ls []) := by
  intro x1 x2 x3 S H locs ls hx1 hx2 hW hl hf
  unfold fX0_finishDoings_80 at hf
  refine lv_aload_n C.1 C.2.1 dX0_finishDoings_80 rfl (lv_at hl 0 rfl) ?_
  refine lv_dup C.1 C.2.1 dX0_finishDoings_81 rfl ?_
  refine m_geti C hW hx1 flX0_184 dX0_finishDoings_82 ?_
  refine lv_iconst C.1 C.2.1 dX0_finishDoings_85 ic_1 ?_
  refine lv_iload_n C.1 C.2.1 dX0_finishDoings_86 rfl (lv_at hl 2 rfl) ?_
  refine lv_ishl C.1 C.2.1 dX0_finishDoings_87 ?_
  refine lv_ior C.1 C.2.1 dX0_finishDoings_88 ?_
  refine m_puti C hW hx1 fpX0_184 dX0_finishDoings_89 (fun H locs hW => ?_)
  exact kX0_finishDoings_92 hK10 C x1 x2 x3 _ _ _ _ hx1 hx2 hW (lv_sub hl [0, 1, 2] rfl) hf

set_option maxRecDepth 100000 in
theorem kX0_finishDoings_48 {p : Program} {l : Launch} {e : Env} {s : State} {m : MethodId} {av : Array Value} {below : List Frame} {meth : Method} {c : Code} {A : Nat → Prop} {G : Gv} {L : List Nat} {q : MS} {K10 : Nat → Nat → Int32 → MS → Option MS} (hK10 : ∀ (x1 : Nat) (x2 : Nat) (x3 : Int32) (S : MS) (H : Heap) (locs : List Loc) (ls : Array Slot), (x1 < shX.1 ∧ shX.2.1 x1 = 9) → (x2 < shX.1 ∧ shX.2.1 x2 = 7) → mW G shX L S A s H locs → lv_has ls 7 [(1, .ref (ad L x1)), (2, .ref (ad L x2)), (3, .int x3)] → K10 x1 x2 x3 S = some q → W p l e (rmd (2)) s m av below meth c H locs 0 0 (MQ below (mQ G shX L q none A) av s 0 0 A) (F0 m 10 ls [])) (C : mC p s m av meth c cX0_finishDoings RX0 7 none) : ∀ (x1 : Nat) (x2 : Nat) (x3 : Int32) (x4 : Int32) (x5 : Int32) (y0 : Int32) (S : MS) (H : Heap) (locs : List Loc) (ls : Array Slot), (x1 < shX.1 ∧ shX.2.1 x1 = 9) → (x2 < shX.1 ∧ shX.2.1 x2 = 7) → mW G shX L S A s H locs → lv_has ls 7 [(1, .ref (ad L x1)), (2, .ref (ad L x2)), (3, .int x3), (4, .int x4), (5, .int x5)] → fX0_finishDoings_48 K10 x1 x2 x3 x4 x5 y0 S = some q → W p l e (rmd (2)) s m av below meth c H locs 0 0 (MQ below (mQ G shX L q none A) av s 0 0 A) (F0 m 48 ls [.int y0]) := by
  intro x1 x2 x3 x4 x5 y0 S H locs ls hx1 hx2 hW hl hf
  unfold fX0_finishDoings_48 at hf
  refine lv_istore (lv' := [(6, .int y0), (1, .ref (ad L x1)), (2, .ref (ad L x2)), (3, .int x3), (4, .int x4), (5, .int x5)]) C.1 C.2.1 dX0_finishDoings_48 hl (by decide) rfl (fun ls hl => ?_)
  refine lv_iload C.1 C.2.1 dX0_finishDoings_50 (lv_at hl 0 rfl) ?_
  refine lv_if_eq (tgt := 69) C.1 C.2.1 dX0_finishDoings_52 rfl (fun c1 => ?_) (fun c1 => ?_)
  · have hf := (if_pos c1).symm.trans hf
    refine lv_aload_n C.1 C.2.1 dX0_finishDoings_69 rfl (lv_at hl 1 rfl) ?_
    refine lv_iload C.1 C.2.1 dX0_finishDoings_70 (lv_at hl 4 rfl) ?_
    refine lv_iload C.1 C.2.1 dX0_finishDoings_72 (lv_at hl 5 rfl) ?_
    obtain ⟨q2, h3, hf⟩ := bd hf
    refine m_callV (As := [.int x4, .int x5]) (rest := []) C hW hx1 (cX9_isItApartAt_ok  hx1 h3) mlX0_181 (by decide) rfl hl.1 rfl (Nat.le_of_ble_eq_true rfl) (Nat.le_of_ble_eq_true rfl) (Nat.le_of_ble_eq_true rfl) dX0_finishDoings_74 (fun H locs hW => ?_)
    refine lv_if_eq (tgt := 92) C.1 C.2.1 dX0_finishDoings_77 rfl (fun c4 => ?_) (fun c4 => ?_)
    · have hf := (if_pos c4).symm.trans hf
      exact kX0_finishDoings_92 hK10 C x1 x2 x3 _ _ _ _ hx1 hx2 hW (lv_sub hl [1, 2, 3] rfl) hf
    · have hf := (if_neg c4).symm.trans hf
      exact kX0_finishDoings_80 hK10 C x1 x2 x3 _ _ _ _ hx1 hx2 hW (lv_sub hl [1, 2, 3] rfl) hf
  · have hf := (if_neg c1).symm.trans hf
    refine lv_aload_n C.1 C.2.1 dX0_finishDoings_55 rfl (lv_at hl 1 rfl) ?_
    refine lv_iload C.1 C.2.1 dX0_finishDoings_56 (lv_at hl 4 rfl) ?_
    refine lv_iload C.1 C.2.1 dX0_finishDoings_58 (lv_at hl 5 rfl) ?_
    obtain ⟨q5, h6, hf⟩ := bd hf
    refine m_callV (As := [.int x4, .int x5]) (rest := []) C hW hx1 (cX9_isSheAt_ok  hx1 h6) mlX0_166 (by decide) rfl hl.1 rfl (Nat.le_of_ble_eq_true rfl) (Nat.le_of_ble_eq_true rfl) (Nat.le_of_ble_eq_true rfl) dX0_finishDoings_60 (fun H locs hW => ?_)
    refine lv_if_eq (tgt := 92) C.1 C.2.1 dX0_finishDoings_63 rfl (fun c7 => ?_) (fun c7 => ?_)
    · have hf := (if_pos c7).symm.trans hf
      exact kX0_finishDoings_92 hK10 C x1 x2 x3 _ _ _ _ hx1 hx2 hW (lv_sub hl [1, 2, 3] rfl) hf
    · have hf := (if_neg c7).symm.trans hf
      refine lv_goto (tgt := 80) C.1 C.2.1 dX0_finishDoings_66 rfl ?_
      exact kX0_finishDoings_80 hK10 C x1 x2 x3 _ _ _ _ hx1 hx2 hW (lv_sub hl [1, 2, 3] rfl) hf

set_option maxRecDepth 100000 in
theorem kX0_finishDoings_10 {p : Program} {l : Launch} {e : Env} {s : State} {m : MethodId} {av : Array Value} {below : List Frame} {meth : Method} {c : Code} {A : Nat → Prop} {G : Gv} {L : List Nat} {q : MS}  (C : mC p s m av meth c cX0_finishDoings RX0 7 none) : ∀ (n : Nat) (x1 : Nat) (x2 : Nat) (x3 : Int32) (S : MS) (H : Heap) (locs : List Loc) (ls : Array Slot), (x1 < shX.1 ∧ shX.2.1 x1 = 9) → (x2 < shX.1 ∧ shX.2.1 x2 = 7) → mW G shX L S A s H locs → lv_has ls 7 [(1, .ref (ad L x1)), (2, .ref (ad L x2)), (3, .int x3)] → fX0_finishDoings_10  n x1 x2 x3 S = some q → W p l e (rmd (2)) s m av below meth c H locs 0 0 (MQ below (mQ G shX L q none A) av s 0 0 A) (F0 m 10 ls []) := by
  intro n
  induction n with
  | zero =>
    intro x1 x2 x3 S H locs ls hx1 hx2 hW hl hf
    rw [fX0_finishDoings_10] at hf
    cases hf
  | succ n ih =>
    intro x1 x2 x3 S H locs ls hx1 hx2 hW hl hf
    rw [fX0_finishDoings_10] at hf
    refine lv_iload_n C.1 C.2.1 dX0_finishDoings_10 rfl (lv_at hl 2 rfl) ?_
    refine lv_aload_n C.1 C.2.1 dX0_finishDoings_11 rfl (lv_at hl 1 rfl) ?_
    obtain ⟨q8, h9, hf⟩ := bd hf
    refine m_callV (As := []) (rest := [.int x3]) C hW hx2 (cX7_size_ok  hx2 h9) mlX0_33 (by decide) rfl hl.1 rfl (Nat.le_of_ble_eq_true rfl) (Nat.le_of_ble_eq_true rfl) (Nat.le_of_ble_eq_true rfl) dX0_finishDoings_12 (fun H locs hW => ?_)
    refine lv_icmp_ge (tgt := 98) C.1 C.2.1 dX0_finishDoings_15 rfl (fun c10 => ?_) (fun c10 => ?_)
    · have hf := (if_pos c10).symm.trans hf
      cases hf
      exact m_vret C hW dX0_finishDoings_98
    · have hf := (if_neg c10).symm.trans hf
      refine lv_aload_n C.1 C.2.1 dX0_finishDoings_18 rfl (lv_at hl 1 rfl) ?_
      refine lv_iload_n C.1 C.2.1 dX0_finishDoings_19 rfl (lv_at hl 2 rfl) ?_
      refine lv_iconst C.1 C.2.1 dX0_finishDoings_20 ic_2 ?_
      obtain ⟨q11, h12, hf⟩ := bd hf
      refine m_callV (As := [.int x3, .int (2 : Int32)]) (rest := []) C hW hx2 (cX7_get_ok  hx2 h12) mlX0_39 (by decide) rfl hl.1 rfl (Nat.le_of_ble_eq_true rfl) (Nat.le_of_ble_eq_true rfl) (Nat.le_of_ble_eq_true rfl) dX0_finishDoings_21 (fun H locs hW => ?_)
      refine lv_istore (lv' := [(4, .int q11), (1, .ref (ad L x1)), (2, .ref (ad L x2)), (3, .int x3)]) C.1 C.2.1 dX0_finishDoings_24 hl (by decide) rfl (fun ls hl => ?_)
      refine lv_aload_n C.1 C.2.1 dX0_finishDoings_26 rfl (lv_at hl 2 rfl) ?_
      refine lv_iload_n C.1 C.2.1 dX0_finishDoings_27 rfl (lv_at hl 3 rfl) ?_
      refine lv_iconst C.1 C.2.1 dX0_finishDoings_28 ic_3 ?_
      obtain ⟨q13, h14, hf⟩ := bd hf
      refine m_callV (As := [.int x3, .int (3 : Int32)]) (rest := []) C hW hx2 (cX7_get_ok  hx2 h14) mlX0_39 (by decide) rfl hl.1 rfl (Nat.le_of_ble_eq_true rfl) (Nat.le_of_ble_eq_true rfl) (Nat.le_of_ble_eq_true rfl) dX0_finishDoings_29 (fun H locs hW => ?_)
      refine lv_istore (lv' := [(5, .int q13), (4, .int q11), (1, .ref (ad L x1)), (2, .ref (ad L x2)), (3, .int x3)]) C.1 C.2.1 dX0_finishDoings_32 hl (by decide) rfl (fun ls hl => ?_)
      refine lv_aload_n C.1 C.2.1 dX0_finishDoings_34 rfl (lv_at hl 3 rfl) ?_
      refine lv_iload_n C.1 C.2.1 dX0_finishDoings_35 rfl (lv_at hl 4 rfl) ?_
      refine lv_iconst C.1 C.2.1 dX0_finishDoings_36 ic_1 ?_
      obtain ⟨q15, h16, hf⟩ := bd hf
      refine m_callV (As := [.int x3, .int (1 : Int32)]) (rest := []) C hW hx2 (cX7_get_ok  hx2 h16) mlX0_39 (by decide) rfl hl.1 rfl (Nat.le_of_ble_eq_true rfl) (Nat.le_of_ble_eq_true rfl) (Nat.le_of_ble_eq_true rfl) dX0_finishDoings_37 (fun H locs hW => ?_)
      refine lv_if_ne (tgt := 47) C.1 C.2.1 dX0_finishDoings_40 rfl (fun c17 => ?_) (fun c17 => ?_)
      · have hf := (if_neg c17).symm.trans hf
        refine lv_iconst C.1 C.2.1 dX0_finishDoings_47 ic_0 ?_
        exact kX0_finishDoings_48 ih C x1 x2 x3 q11 q13 (0 : Int32) _ _ _ _ hx1 hx2 hW (lv_sub hl [2, 3, 4, 1, 0] rfl) hf
      · have hf := (if_pos c17).symm.trans hf
        refine lv_iconst C.1 C.2.1 dX0_finishDoings_43 ic_1 ?_
        refine lv_goto (tgt := 48) C.1 C.2.1 dX0_finishDoings_44 rfl ?_
        exact kX0_finishDoings_48 ih C x1 x2 x3 q11 q13 (1 : Int32) _ _ _ _ hx1 hx2 hW (lv_sub hl [2, 3, 4, 1, 0] rfl) hf

set_option maxRecDepth 100000 in
theorem cX0_finishDoings_ok {l : Launch} {G : Gv} {L : List Nat} {S : MS} {a0 : Nat} {a1 : Nat} {q : MS} (ha0 : a0 < shX.1 ∧ shX.2.1 a0 = 0) (ha1 : a1 < shX.1 ∧ shX.2.1 a1 = 9) (hf : fX0_finishDoings a0 a1 S = some q) : Mt l yX0_finishDoings cX0_finishDoings 7 none (2) G shX L S [.ref (ad L a0), .ref (ad L a1)] none q := by
  refine m_enter (lv := [(0, .ref (ad L a0)), (1, .ref (ad L a1))]) (plainFor_of_name (by decide)) (Nat.le_of_ble_eq_true rfl) rfl ?_
  intro p e s m below meth c A ls C hW hl
  unfold fX0_finishDoings at hf
  refine lv_aload_n C.1 C.2.1 dX0_finishDoings_0 rfl (lv_at hl 0 rfl) ?_
  refine m_getr C hW ha0 flX0_15 (by decide) dX0_finishDoings_1 (fun hk18 => ?_)
  refine m_getr C hW hk18 flX0_178 (by decide) dX0_finishDoings_4 (fun hk19 => ?_)
  refine lv_astore_n (lv' := [(2, .ref (ad L (gR S (gR S a0 1) 5))), (0, .ref (ad L a0)), (1, .ref (ad L a1))]) C.1 C.2.1 dX0_finishDoings_7 rfl hl (by decide) rfl (fun ls hl => ?_)
  refine lv_iconst C.1 C.2.1 dX0_finishDoings_8 ic_0 ?_
  refine lv_istore_n (lv' := [(3, .int (0 : Int32)), (2, .ref (ad L (gR S (gR S a0 1) 5))), (0, .ref (ad L a0)), (1, .ref (ad L a1))]) C.1 C.2.1 dX0_finishDoings_9 rfl hl (by decide) rfl (fun ls hl => ?_)
  exact kX0_finishDoings_10  C 1000 a1 (gR S (gR S a0 1) 5) (0 : Int32) _ _ _ _ ha1 hk19 hW (lv_sub hl [3, 1, 0] rfl) hf

def fX0_tell_58  (x0 : Nat) (x1 : Nat) (S : MS) : Option MS := (if bnd (6 : Int32) (lnX (gR S x0 0)) = true then some (pI S (gR S x0 0) ((6 : Int32).toNatClampNeg) ((gI S x1 3) - ((gI S x1 3) / (24 : Int32)) * (24 : Int32))) else none)
def fX0_tell_35  (x0 : Nat) (x1 : Nat) (S : MS) : Option MS := (if bnd (4 : Int32) (lnX (gR S x0 0)) = true then (fJ6_bitCount_0f7a4  (gI (pI S (gR S x0 0) ((4 : Int32).toNatClampNeg) (gI S x1 6)) x1 7) (pI S (gR S x0 0) ((4 : Int32).toNatClampNeg) (gI S x1 6))).bind fun q6 => (if bnd (5 : Int32) (lnX (gR (pI S (gR S x0 0) ((4 : Int32).toNatClampNeg) (gI S x1 6)) x0 0)) = true then fX0_tell_58  x0 x1 (pI (pI S (gR S x0 0) ((4 : Int32).toNatClampNeg) (gI S x1 6)) (gR (pI S (gR S x0 0) ((4 : Int32).toNatClampNeg) (gI S x1 6)) x0 0) ((5 : Int32).toNatClampNeg) q6) else none) else none)
def fX0_tell_14  (x0 : Nat) (x1 : Nat) (x4 : Int32) (S : MS) : Option MS := (if bnd (2 : Int32) (lnX (gR S x0 0)) = true then (fJ6_bitCount_0f7a4  (gI (pI S (gR S x0 0) ((2 : Int32).toNatClampNeg) x4) x1 8) (pI S (gR S x0 0) ((2 : Int32).toNatClampNeg) x4)).bind fun q12 => (if bnd (3 : Int32) (lnX (gR (pI S (gR S x0 0) ((2 : Int32).toNatClampNeg) x4) x0 0)) = true then fX0_tell_35  x0 x1 (pI (pI S (gR S x0 0) ((2 : Int32).toNatClampNeg) x4) (gR (pI S (gR S x0 0) ((2 : Int32).toNatClampNeg) x4) x0 0) ((3 : Int32).toNatClampNeg) q12) else none) else none)
def fX0_tell (a0 : Nat) (a1 : Nat) (a2 : Int32) (a3 : Int32) (a4 : Int32) (S : MS) : Option MS := (if bnd (0 : Int32) (lnX (gR S a0 0)) = true then (if bnd (1 : Int32) (lnX (gR (pI S (gR S a0 0) ((0 : Int32).toNatClampNeg) a2) a0 0)) = true then fX0_tell_14  a0 a1 a4 (pI (pI S (gR S a0 0) ((0 : Int32).toNatClampNeg) a2) (gR (pI S (gR S a0 0) ((0 : Int32).toNatClampNeg) a2) a0 0) ((1 : Int32).toNatClampNeg) a3) else none) else none)
set_option maxRecDepth 100000 in
theorem kX0_tell_58 {p : Program} {l : Launch} {e : Env} {s : State} {m : MethodId} {av : Array Value} {below : List Frame} {meth : Method} {c : Code} {A : Nat → Prop} {G : Gv} {L : List Nat} {q : MS}  (C : mC p s m av meth c cX0_tell RX0 5 none) : ∀ (x0 : Nat) (x1 : Nat) (S : MS) (H : Heap) (locs : List Loc) (ls : Array Slot), (x0 < shX.1 ∧ shX.2.1 x0 = 0) → (x1 < shX.1 ∧ shX.2.1 x1 = 9) → mW G shX L S A s H locs → lv_has ls 5 [(0, .ref (ad L x0)), (1, .ref (ad L x1))] → fX0_tell_58  x0 x1 S = some q → W p l e (rmd (2)) s m av below meth c H locs 0 0 (MQ below (mQ G shX L q none A) av s 0 0 A) (F0 m 58 ls []) := by
  intro x0 x1 S H locs ls hx0 hx1 hW hl hf
  unfold fX0_tell_58 at hf
  refine lv_aload_n C.1 C.2.1 dX0_tell_58 rfl (lv_at hl 0 rfl) ?_
  refine m_getr C hW hx0 flX0_11 (by decide) dX0_tell_59 (fun hk1 => ?_)
  refine lv_bipush C.1 C.2.1 dX0_tell_62 bp_6 ?_
  refine lv_aload_n C.1 C.2.1 dX0_tell_64 rfl (lv_at hl 1 rfl) ?_
  refine m_geti C hW hx1 flX0_43 dX0_tell_65 ?_
  refine lv_bipush C.1 C.2.1 dX0_tell_68 bp_24 ?_
  refine lv_irem C.1 C.2.1 dX0_tell_70 (by decide) ?_
  obtain ⟨hb2, hf⟩ := gd hf
  refine m_iast C hW hk1 hb2 dX0_tell_71 (fun H locs hW => ?_)
  cases hf
  exact m_vret C hW dX0_tell_72

set_option maxRecDepth 100000 in
theorem kX0_tell_35 {p : Program} {l : Launch} {e : Env} {s : State} {m : MethodId} {av : Array Value} {below : List Frame} {meth : Method} {c : Code} {A : Nat → Prop} {G : Gv} {L : List Nat} {q : MS}  (C : mC p s m av meth c cX0_tell RX0 5 none) : ∀ (x0 : Nat) (x1 : Nat) (S : MS) (H : Heap) (locs : List Loc) (ls : Array Slot), (x0 < shX.1 ∧ shX.2.1 x0 = 0) → (x1 < shX.1 ∧ shX.2.1 x1 = 9) → mW G shX L S A s H locs → lv_has ls 5 [(0, .ref (ad L x0)), (1, .ref (ad L x1))] → fX0_tell_35  x0 x1 S = some q → W p l e (rmd (2)) s m av below meth c H locs 0 0 (MQ below (mQ G shX L q none A) av s 0 0 A) (F0 m 35 ls []) := by
  intro x0 x1 S H locs ls hx0 hx1 hW hl hf
  unfold fX0_tell_35 at hf
  refine lv_aload_n C.1 C.2.1 dX0_tell_35 rfl (lv_at hl 0 rfl) ?_
  refine m_getr C hW hx0 flX0_11 (by decide) dX0_tell_36 (fun hk3 => ?_)
  refine lv_iconst C.1 C.2.1 dX0_tell_39 ic_4 ?_
  refine lv_aload_n C.1 C.2.1 dX0_tell_40 rfl (lv_at hl 1 rfl) ?_
  refine m_geti C hW hx1 flX0_71 dX0_tell_41 ?_
  obtain ⟨hb4, hf⟩ := gd hf
  refine m_iast C hW hk3 hb4 dX0_tell_44 (fun H locs hW => ?_)
  refine lv_aload_n C.1 C.2.1 dX0_tell_45 rfl (lv_at hl 0 rfl) ?_
  refine m_getr C hW hx0 flX0_11 (by decide) dX0_tell_46 (fun hk5 => ?_)
  refine lv_iconst C.1 C.2.1 dX0_tell_49 ic_5 ?_
  refine lv_aload_n C.1 C.2.1 dX0_tell_50 rfl (lv_at hl 1 rfl) ?_
  refine m_geti C hW hx1 flX0_172 dX0_tell_51 ?_
  obtain ⟨q6, h7, hf⟩ := bd hf
  refine m_callS (As := [.int (gI (pI S (gR S x0 0) ((4 : Int32).toNatClampNeg) (gI S x1 6)) x1 7)]) (rest := [.int (5 : Int32), .ref (ad L (gR (pI S (gR S x0 0) ((4 : Int32).toNatClampNeg) (gI S x1 6)) x0 0))]) C hW (cJ6_bitCount_0f7a4_ok   h7) mlX0_203 rfl hl.1 rfl (Nat.le_of_ble_eq_true rfl) (Nat.le_of_ble_eq_true rfl) (Nat.le_of_ble_eq_true rfl) dX0_tell_54 (fun H locs hW => ?_)
  obtain ⟨hb8, hf⟩ := gd hf
  refine m_iast C hW hk5 hb8 dX0_tell_57 (fun H locs hW => ?_)
  exact kX0_tell_58  C x0 x1 _ _ _ _ hx0 hx1 hW (lv_sub hl [0, 1] rfl) hf

set_option maxRecDepth 100000 in
theorem kX0_tell_14 {p : Program} {l : Launch} {e : Env} {s : State} {m : MethodId} {av : Array Value} {below : List Frame} {meth : Method} {c : Code} {A : Nat → Prop} {G : Gv} {L : List Nat} {q : MS}  (C : mC p s m av meth c cX0_tell RX0 5 none) : ∀ (x0 : Nat) (x1 : Nat) (x4 : Int32) (S : MS) (H : Heap) (locs : List Loc) (ls : Array Slot), (x0 < shX.1 ∧ shX.2.1 x0 = 0) → (x1 < shX.1 ∧ shX.2.1 x1 = 9) → mW G shX L S A s H locs → lv_has ls 5 [(0, .ref (ad L x0)), (1, .ref (ad L x1)), (4, .int x4)] → fX0_tell_14  x0 x1 x4 S = some q → W p l e (rmd (2)) s m av below meth c H locs 0 0 (MQ below (mQ G shX L q none A) av s 0 0 A) (F0 m 14 ls []) := by
  intro x0 x1 x4 S H locs ls hx0 hx1 hW hl hf
  unfold fX0_tell_14 at hf
  refine lv_aload_n C.1 C.2.1 dX0_tell_14 rfl (lv_at hl 0 rfl) ?_
  refine m_getr C hW hx0 flX0_11 (by decide) dX0_tell_15 (fun hk9 => ?_)
  refine lv_iconst C.1 C.2.1 dX0_tell_18 ic_2 ?_
  refine lv_iload C.1 C.2.1 dX0_tell_19 (lv_at hl 2 rfl) ?_
  obtain ⟨hb10, hf⟩ := gd hf
  refine m_iast C hW hk9 hb10 dX0_tell_21 (fun H locs hW => ?_)
  refine lv_aload_n C.1 C.2.1 dX0_tell_22 rfl (lv_at hl 0 rfl) ?_
  refine m_getr C hW hx0 flX0_11 (by decide) dX0_tell_23 (fun hk11 => ?_)
  refine lv_iconst C.1 C.2.1 dX0_tell_26 ic_3 ?_
  refine lv_aload_n C.1 C.2.1 dX0_tell_27 rfl (lv_at hl 1 rfl) ?_
  refine m_geti C hW hx1 flX0_184 dX0_tell_28 ?_
  obtain ⟨q12, h13, hf⟩ := bd hf
  refine m_callS (As := [.int (gI (pI S (gR S x0 0) ((2 : Int32).toNatClampNeg) x4) x1 8)]) (rest := [.int (3 : Int32), .ref (ad L (gR (pI S (gR S x0 0) ((2 : Int32).toNatClampNeg) x4) x0 0))]) C hW (cJ6_bitCount_0f7a4_ok   h13) mlX0_203 rfl hl.1 rfl (Nat.le_of_ble_eq_true rfl) (Nat.le_of_ble_eq_true rfl) (Nat.le_of_ble_eq_true rfl) dX0_tell_31 (fun H locs hW => ?_)
  obtain ⟨hb14, hf⟩ := gd hf
  refine m_iast C hW hk11 hb14 dX0_tell_34 (fun H locs hW => ?_)
  exact kX0_tell_35  C x0 x1 _ _ _ _ hx0 hx1 hW (lv_sub hl [0, 1] rfl) hf

set_option maxRecDepth 100000 in
theorem cX0_tell_ok {l : Launch} {G : Gv} {L : List Nat} {S : MS} {a0 : Nat} {a1 : Nat} {a2 : Int32} {a3 : Int32} {a4 : Int32} {q : MS} (ha0 : a0 < shX.1 ∧ shX.2.1 a0 = 0) (ha1 : a1 < shX.1 ∧ shX.2.1 a1 = 9) (hf : fX0_tell a0 a1 a2 a3 a4 S = some q) : Mt l yX0_tell cX0_tell 5 none (2) G shX L S [.ref (ad L a0), .ref (ad L a1), .int a2, .int a3, .int a4] none q := by
  refine m_enter (lv := [(0, .ref (ad L a0)), (1, .ref (ad L a1)), (2, .int a2), (3, .int a3), (4, .int a4)]) (plainFor_of_name (by decide)) (Nat.le_of_ble_eq_true rfl) rfl ?_
  intro p e s m below meth c A ls C hW hl
  unfold fX0_tell at hf
  refine lv_aload_n C.1 C.2.1 dX0_tell_0 rfl (lv_at hl 0 rfl) ?_
  refine m_getr C hW ha0 flX0_11 (by decide) dX0_tell_1 (fun hk15 => ?_)
  refine lv_iconst C.1 C.2.1 dX0_tell_4 ic_0 ?_
  refine lv_iload_n C.1 C.2.1 dX0_tell_5 rfl (lv_at hl 2 rfl) ?_
  obtain ⟨hb16, hf⟩ := gd hf
  refine m_iast C hW hk15 hb16 dX0_tell_6 (fun H locs hW => ?_)
  refine lv_aload_n C.1 C.2.1 dX0_tell_7 rfl (lv_at hl 0 rfl) ?_
  refine m_getr C hW ha0 flX0_11 (by decide) dX0_tell_8 (fun hk17 => ?_)
  refine lv_iconst C.1 C.2.1 dX0_tell_11 ic_1 ?_
  refine lv_iload_n C.1 C.2.1 dX0_tell_12 rfl (lv_at hl 3 rfl) ?_
  obtain ⟨hb18, hf⟩ := gd hf
  refine m_iast C hW hk17 hb18 dX0_tell_13 (fun H locs hW => ?_)
  exact kX0_tell_14  C a0 a1 a4 _ _ _ _ ha0 ha1 hW (lv_sub hl [0, 1, 4] rfl) hf

def fX1_workOut_167 (K4 : Nat → Nat → Int32 → Int32 → MS → Option (Int64 × MS)) (x0 : Nat) (x1 : Nat) (x3 : Int32) (x7 : Int32) (x8 : Int64) (S : MS) : Option (Int64 × MS) := (if (0 : Int32) < (lg_cmp x8 (1000000000000 : Int64)) then some ((-9223372036854775808 : Int64), S) else (if (0 : Int32) ≤ (lg_cmp x8 (-1000000000000 : Int64)) then (if bnd x7 (lnX (gR S x0 1)) = true then K4 x0 x1 (x7 + (1 : Int32)) (x3 + (1 : Int32)) (pJ S (gR S x0 1) x7.toNatClampNeg x8) else none) else some ((-9223372036854775808 : Int64), S)))
def fX1_workOut_139 (K4 : Nat → Nat → Int32 → Int32 → MS → Option (Int64 × MS)) (x0 : Nat) (x1 : Nat) (x3 : Int32) (x7 : Int32) (y0 : Int64) (S : MS) : Option (Int64 × MS) := fX1_workOut_167 K4 x0 x1 x3 x7 y0 S
def fX1_workOut_111 (K4 : Nat → Nat → Int32 → Int32 → MS → Option (Int64 × MS)) (x0 : Nat) (x1 : Nat) (x3 : Int32) (x7 : Int32) (y0 : Int64) (S : MS) : Option (Int64 × MS) := fX1_workOut_167 K4 x0 x1 x3 x7 y0 S
def fX1_workOut_62 (K4 : Nat → Nat → Int32 → Int32 → MS → Option (Int64 × MS)) (x0 : Nat) (x1 : Nat) (x2 : Int32) (x3 : Int32) (x4 : Int32) (x5 : Int32) (y0 : Int32) (S : MS) : Option (Int64 × MS) := (if (x2 - y0) < (0 : Int32) then some ((-9223372036854775808 : Int64), S) else (if (x2 - y0) < (64 : Int32) then (if x5 = (0 : Int32) then (if y0 = (1 : Int32) then (if bnd (x2 - y0) (lnX (gR S x0 1)) = true then (if lg_cmp (gJ S (gR S x0 1) (x2 - y0).toNatClampNeg) (0 : Int64) = (0 : Int32) then fX1_workOut_139 K4 x0 x1 x3 (x2 - y0) (1 : Int64) S else fX1_workOut_139 K4 x0 x1 x3 (x2 - y0) (0 : Int64) S) else none) else (if bnd (x2 - y0) (lnX (gR S x0 1)) = true then (if bnd ((x2 - y0) + (1 : Int32)) (lnX (gR S x0 1)) = true then (fX1_join  x4 (gJ S (gR S x0 1) (x2 - y0).toNatClampNeg) (gJ S (gR S x0 1) ((x2 - y0) + (1 : Int32)).toNatClampNeg) S).bind fun q13 => fX1_workOut_167 K4 x0 x1 x3 (x2 - y0) q13 S else none) else none)) else (if (0 : Int32) < x4 then (if bnd (x4 - (37 : Int32)) (lnX x1) = true then fX1_workOut_111 K4 x0 x1 x3 (x2 - y0) ((gI S x1 (x4 - (37 : Int32)).toNatClampNeg).toInt64) S else none) else fX1_workOut_111 K4 x0 x1 x3 (x2 - y0) ((-x4).toInt64) S)) else some ((-9223372036854775808 : Int64), S)))
def fX1_workOut_39 (K4 : Nat → Nat → Int32 → Int32 → MS → Option (Int64 × MS)) (x0 : Nat) (x1 : Nat) (x2 : Int32) (x3 : Int32) (x4 : Int32) (y0 : Int32) (S : MS) : Option (Int64 × MS) := (if y0 = (0 : Int32) then (if x4 = (36 : Int32) then fX1_workOut_62 K4 x0 x1 x2 x3 x4 y0 (1 : Int32) S else fX1_workOut_62 K4 x0 x1 x2 x3 x4 y0 (2 : Int32) S) else fX1_workOut_62 K4 x0 x1 x2 x3 x4 y0 (0 : Int32) S)
def fX1_workOut_34 (K4 : Nat → Nat → Int32 → Int32 → MS → Option (Int64 × MS)) (x0 : Nat) (x1 : Nat) (x2 : Int32) (x3 : Int32) (x4 : Int32) (S : MS) : Option (Int64 × MS) := fX1_workOut_39 K4 x0 x1 x2 x3 x4 (1 : Int32) S
def fX1_workOut_4  : Nat → Nat → Nat → Int32 → Int32 → MS → Option (Int64 × MS)
  | 0, _, _, _, _, _ => none
  | n + 1, x0, x1, x2, x3, S => (if (gI S x0 2) ≤ x3 then (if x2 = (1 : Int32) then (if bnd (0 : Int32) (lnX (gR S x0 1)) = true then some (gJ S (gR S x0 1) (0 : Int32).toNatClampNeg, S) else none) else some ((-9223372036854775808 : Int64), S)) else (if bnd x3 (lnX (gR S x0 0)) = true then (if (-(gI S (gR S x0 0) x3.toNatClampNeg)) ≤ (0 : Int32) then fX1_workOut_34 (fX1_workOut_4  n) x0 x1 x2 x3 (-(gI S (gR S x0 0) x3.toNatClampNeg)) S else (fX5_isName  (-(gI S (gR S x0 0) x3.toNatClampNeg)) S).bind fun q29 => (if q29 = (0 : Int32) then fX1_workOut_39 (fX1_workOut_4  n) x0 x1 x2 x3 (-(gI S (gR S x0 0) x3.toNatClampNeg)) (0 : Int32) S else fX1_workOut_34 (fX1_workOut_4  n) x0 x1 x2 x3 (-(gI S (gR S x0 0) x3.toNatClampNeg)) S)) else none))
def fX1_workOut (a0 : Nat) (a1 : Nat) (S : MS) : Option (Int64 × MS) := fX1_workOut_4  1000 a0 a1 (0 : Int32) (0 : Int32) S
set_option maxRecDepth 100000 in
theorem kX1_workOut_167 {p : Program} {l : Launch} {e : Env} {s : State} {m : MethodId} {av : Array Value} {below : List Frame} {meth : Method} {c : Code} {A : Nat → Prop} {G : Gv} {L : List Nat} {q : (Int64 × MS)} {K4 : Nat → Nat → Int32 → Int32 → MS → Option (Int64 × MS)} (hK4 : ∀ (x0 : Nat) (x1 : Nat) (x2 : Int32) (x3 : Int32) (S : MS) (H : Heap) (locs : List Loc) (ls : Array Slot), (x0 < shX.1 ∧ shX.2.1 x0 = 1) → (x1 < shX.1 ∧ shX.2.1 x1 = 13) → mW G shX L S A s H locs → lv_has ls 10 [(0, .ref (ad L x0)), (1, .ref (ad L x1)), (2, .int x2), (3, .int x3)] → K4 x0 x1 x2 x3 S = some q → W p l e (rmd (2)) s m av below meth c H locs 0 0 (MQ below (mQ G shX L q.2 (some (.long q.1)) A) av s 0 0 A) (F0 m 4 ls [])) (C : mC p s m av meth c cX1_workOut RX1 10 (some .long)) : ∀ (x0 : Nat) (x1 : Nat) (x3 : Int32) (x7 : Int32) (x8 : Int64) (S : MS) (H : Heap) (locs : List Loc) (ls : Array Slot), (x0 < shX.1 ∧ shX.2.1 x0 = 1) → (x1 < shX.1 ∧ shX.2.1 x1 = 13) → mW G shX L S A s H locs → lv_has ls 10 [(0, .ref (ad L x0)), (1, .ref (ad L x1)), (3, .int x3), (7, .int x7), (8, .long x8)] → fX1_workOut_167 K4 x0 x1 x3 x7 x8 S = some q → W p l e (rmd (2)) s m av below meth c H locs 0 0 (MQ below (mQ G shX L q.2 (some (.long q.1)) A) av s 0 0 A) (F0 m 167 ls []) := by
  intro x0 x1 x3 x7 x8 S H locs ls hx0 hx1 hW hl hf
  unfold fX1_workOut_167 at hf
  refine lv_lload C.1 C.2.1 dX1_workOut_167 (lv_at hl 4 rfl) ?_
  refine lv_ldc2 C.1 C.2.1 C.2.2.2.1 (C.2.2.2.2.1 _ kw_939) dX1_workOut_169 ?_
  refine W.lcmp C.1 C.2.1 dX1_workOut_172 ?_
  refine lv_if_gt (tgt := 185) C.1 C.2.1 dX1_workOut_173 rfl (fun c1 => ?_) (fun c1 => ?_)
  · have hf := (if_pos c1).symm.trans hf
    refine lv_ldc2 C.1 C.2.1 C.2.2.2.1 (C.2.2.2.2.1 _ kw_935) dX1_workOut_185 ?_
    cases hf
    exact m_lret C hW dX1_workOut_188
  · have hf := (if_neg c1).symm.trans hf
    refine lv_lload C.1 C.2.1 dX1_workOut_176 (lv_at hl 4 rfl) ?_
    refine lv_ldc2 C.1 C.2.1 C.2.2.2.1 (C.2.2.2.2.1 _ kw_940) dX1_workOut_178 ?_
    refine W.lcmp C.1 C.2.1 dX1_workOut_181 ?_
    refine lv_if_ge (tgt := 189) C.1 C.2.1 dX1_workOut_182 rfl (fun c2 => ?_) (fun c2 => ?_)
    · have hf := (if_pos c2).symm.trans hf
      refine lv_aload_n C.1 C.2.1 dX1_workOut_189 rfl (lv_at hl 0 rfl) ?_
      refine m_getr C hW hx0 flX1_15 (by decide) dX1_workOut_190 (fun hk3 => ?_)
      refine lv_iload C.1 C.2.1 dX1_workOut_193 (lv_at hl 3 rfl) ?_
      refine lv_lload C.1 C.2.1 dX1_workOut_195 (lv_at hl 4 rfl) ?_
      obtain ⟨hb4, hf⟩ := gd hf
      refine m_last C hW hk3 hb4 dX1_workOut_197 (fun H locs hW => ?_)
      refine lv_iload C.1 C.2.1 dX1_workOut_198 (lv_at hl 3 rfl) ?_
      refine lv_iconst C.1 C.2.1 dX1_workOut_200 ic_1 ?_
      refine lv_iadd C.1 C.2.1 dX1_workOut_201 ?_
      refine lv_istore_n (lv' := [(2, .int (x7 + (1 : Int32))), (0, .ref (ad L x0)), (1, .ref (ad L x1)), (3, .int x3), (7, .int x7), (8, .long x8)]) C.1 C.2.1 dX1_workOut_202 rfl hl (by decide) rfl (fun ls hl => ?_)
      refine lv_iinc (v := x3 + (1 : Int32)) (lv' := [(3, .int (x3 + (1 : Int32))), (2, .int (x7 + (1 : Int32))), (0, .ref (ad L x0)), (1, .ref (ad L x1)), (7, .int x7), (8, .long x8)]) C.1 C.2.1 dX1_workOut_203 hl (k := 3) rfl (congrArg (fun z => x3 + z) ic_1) (by decide) rfl (fun ls hl => ?_)
      refine lv_goto (tgt := 4) C.1 C.2.1 dX1_workOut_206 rfl ?_
      exact hK4 x0 x1 (x7 + (1 : Int32)) (x3 + (1 : Int32)) _ _ _ _ hx0 hx1 hW (lv_sub hl [2, 3, 1, 0] rfl) hf
    · have hf := (if_neg c2).symm.trans hf
      refine lv_ldc2 C.1 C.2.1 C.2.2.2.1 (C.2.2.2.2.1 _ kw_935) dX1_workOut_185 ?_
      cases hf
      exact m_lret C hW dX1_workOut_188

set_option maxRecDepth 100000 in
theorem kX1_workOut_139 {p : Program} {l : Launch} {e : Env} {s : State} {m : MethodId} {av : Array Value} {below : List Frame} {meth : Method} {c : Code} {A : Nat → Prop} {G : Gv} {L : List Nat} {q : (Int64 × MS)} {K4 : Nat → Nat → Int32 → Int32 → MS → Option (Int64 × MS)} (hK4 : ∀ (x0 : Nat) (x1 : Nat) (x2 : Int32) (x3 : Int32) (S : MS) (H : Heap) (locs : List Loc) (ls : Array Slot), (x0 < shX.1 ∧ shX.2.1 x0 = 1) → (x1 < shX.1 ∧ shX.2.1 x1 = 13) → mW G shX L S A s H locs → lv_has ls 10 [(0, .ref (ad L x0)), (1, .ref (ad L x1)), (2, .int x2), (3, .int x3)] → K4 x0 x1 x2 x3 S = some q → W p l e (rmd (2)) s m av below meth c H locs 0 0 (MQ below (mQ G shX L q.2 (some (.long q.1)) A) av s 0 0 A) (F0 m 4 ls [])) (C : mC p s m av meth c cX1_workOut RX1 10 (some .long)) : ∀ (x0 : Nat) (x1 : Nat) (x3 : Int32) (x7 : Int32) (y0 : Int64) (S : MS) (H : Heap) (locs : List Loc) (ls : Array Slot), (x0 < shX.1 ∧ shX.2.1 x0 = 1) → (x1 < shX.1 ∧ shX.2.1 x1 = 13) → mW G shX L S A s H locs → lv_has ls 10 [(0, .ref (ad L x0)), (1, .ref (ad L x1)), (3, .int x3), (7, .int x7)] → fX1_workOut_139 K4 x0 x1 x3 x7 y0 S = some q → W p l e (rmd (2)) s m av below meth c H locs 0 0 (MQ below (mQ G shX L q.2 (some (.long q.1)) A) av s 0 0 A) (F0 m 139 ls [.long y0]) := by
  intro x0 x1 x3 x7 y0 S H locs ls hx0 hx1 hW hl hf
  unfold fX1_workOut_139 at hf
  refine lv_lstore (lv' := [(8, .long y0), (0, .ref (ad L x0)), (1, .ref (ad L x1)), (3, .int x3), (7, .int x7)]) C.1 C.2.1 dX1_workOut_139 hl (by decide) rfl (fun ls hl => ?_)
  refine lv_goto (tgt := 167) C.1 C.2.1 dX1_workOut_141 rfl ?_
  exact kX1_workOut_167 hK4 C x0 x1 x3 x7 y0 _ _ _ _ hx0 hx1 hW (lv_sub hl [1, 2, 3, 4, 0] rfl) hf

set_option maxRecDepth 100000 in
theorem kX1_workOut_111 {p : Program} {l : Launch} {e : Env} {s : State} {m : MethodId} {av : Array Value} {below : List Frame} {meth : Method} {c : Code} {A : Nat → Prop} {G : Gv} {L : List Nat} {q : (Int64 × MS)} {K4 : Nat → Nat → Int32 → Int32 → MS → Option (Int64 × MS)} (hK4 : ∀ (x0 : Nat) (x1 : Nat) (x2 : Int32) (x3 : Int32) (S : MS) (H : Heap) (locs : List Loc) (ls : Array Slot), (x0 < shX.1 ∧ shX.2.1 x0 = 1) → (x1 < shX.1 ∧ shX.2.1 x1 = 13) → mW G shX L S A s H locs → lv_has ls 10 [(0, .ref (ad L x0)), (1, .ref (ad L x1)), (2, .int x2), (3, .int x3)] → K4 x0 x1 x2 x3 S = some q → W p l e (rmd (2)) s m av below meth c H locs 0 0 (MQ below (mQ G shX L q.2 (some (.long q.1)) A) av s 0 0 A) (F0 m 4 ls [])) (C : mC p s m av meth c cX1_workOut RX1 10 (some .long)) : ∀ (x0 : Nat) (x1 : Nat) (x3 : Int32) (x7 : Int32) (y0 : Int64) (S : MS) (H : Heap) (locs : List Loc) (ls : Array Slot), (x0 < shX.1 ∧ shX.2.1 x0 = 1) → (x1 < shX.1 ∧ shX.2.1 x1 = 13) → mW G shX L S A s H locs → lv_has ls 10 [(0, .ref (ad L x0)), (1, .ref (ad L x1)), (3, .int x3), (7, .int x7)] → fX1_workOut_111 K4 x0 x1 x3 x7 y0 S = some q → W p l e (rmd (2)) s m av below meth c H locs 0 0 (MQ below (mQ G shX L q.2 (some (.long q.1)) A) av s 0 0 A) (F0 m 111 ls [.long y0]) := by
  intro x0 x1 x3 x7 y0 S H locs ls hx0 hx1 hW hl hf
  unfold fX1_workOut_111 at hf
  refine lv_lstore (lv' := [(8, .long y0), (0, .ref (ad L x0)), (1, .ref (ad L x1)), (3, .int x3), (7, .int x7)]) C.1 C.2.1 dX1_workOut_111 hl (by decide) rfl (fun ls hl => ?_)
  refine lv_goto (tgt := 167) C.1 C.2.1 dX1_workOut_113 rfl ?_
  exact kX1_workOut_167 hK4 C x0 x1 x3 x7 y0 _ _ _ _ hx0 hx1 hW (lv_sub hl [1, 2, 3, 4, 0] rfl) hf

set_option maxRecDepth 100000 in
theorem kX1_workOut_62 {p : Program} {l : Launch} {e : Env} {s : State} {m : MethodId} {av : Array Value} {below : List Frame} {meth : Method} {c : Code} {A : Nat → Prop} {G : Gv} {L : List Nat} {q : (Int64 × MS)} {K4 : Nat → Nat → Int32 → Int32 → MS → Option (Int64 × MS)} (hK4 : ∀ (x0 : Nat) (x1 : Nat) (x2 : Int32) (x3 : Int32) (S : MS) (H : Heap) (locs : List Loc) (ls : Array Slot), (x0 < shX.1 ∧ shX.2.1 x0 = 1) → (x1 < shX.1 ∧ shX.2.1 x1 = 13) → mW G shX L S A s H locs → lv_has ls 10 [(0, .ref (ad L x0)), (1, .ref (ad L x1)), (2, .int x2), (3, .int x3)] → K4 x0 x1 x2 x3 S = some q → W p l e (rmd (2)) s m av below meth c H locs 0 0 (MQ below (mQ G shX L q.2 (some (.long q.1)) A) av s 0 0 A) (F0 m 4 ls [])) (C : mC p s m av meth c cX1_workOut RX1 10 (some .long)) : ∀ (x0 : Nat) (x1 : Nat) (x2 : Int32) (x3 : Int32) (x4 : Int32) (x5 : Int32) (y0 : Int32) (S : MS) (H : Heap) (locs : List Loc) (ls : Array Slot), (x0 < shX.1 ∧ shX.2.1 x0 = 1) → (x1 < shX.1 ∧ shX.2.1 x1 = 13) → mW G shX L S A s H locs → lv_has ls 10 [(0, .ref (ad L x0)), (1, .ref (ad L x1)), (2, .int x2), (3, .int x3), (4, .int x4), (5, .int x5)] → fX1_workOut_62 K4 x0 x1 x2 x3 x4 x5 y0 S = some q → W p l e (rmd (2)) s m av below meth c H locs 0 0 (MQ below (mQ G shX L q.2 (some (.long q.1)) A) av s 0 0 A) (F0 m 62 ls [.int y0]) := by
  intro x0 x1 x2 x3 x4 x5 y0 S H locs ls hx0 hx1 hW hl hf
  unfold fX1_workOut_62 at hf
  refine lv_istore (lv' := [(6, .int y0), (0, .ref (ad L x0)), (1, .ref (ad L x1)), (2, .int x2), (3, .int x3), (4, .int x4), (5, .int x5)]) C.1 C.2.1 dX1_workOut_62 hl (by decide) rfl (fun ls hl => ?_)
  refine lv_iload_n C.1 C.2.1 dX1_workOut_64 rfl (lv_at hl 3 rfl) ?_
  refine lv_iload C.1 C.2.1 dX1_workOut_65 (lv_at hl 0 rfl) ?_
  refine lv_isub C.1 C.2.1 dX1_workOut_67 ?_
  refine lv_istore (lv' := [(7, .int (x2 - y0)), (6, .int y0), (0, .ref (ad L x0)), (1, .ref (ad L x1)), (2, .int x2), (3, .int x3), (4, .int x4), (5, .int x5)]) C.1 C.2.1 dX1_workOut_68 hl (by decide) rfl (fun ls hl => ?_)
  refine lv_iload C.1 C.2.1 dX1_workOut_70 (lv_at hl 0 rfl) ?_
  refine lv_if_lt (tgt := 82) C.1 C.2.1 dX1_workOut_72 rfl (fun c5 => ?_) (fun c5 => ?_)
  · have hf := (if_pos c5).symm.trans hf
    refine lv_ldc2 C.1 C.2.1 C.2.2.2.1 (C.2.2.2.2.1 _ kw_935) dX1_workOut_82 ?_
    cases hf
    exact m_lret C hW dX1_workOut_85
  · have hf := (if_neg c5).symm.trans hf
    refine lv_iload C.1 C.2.1 dX1_workOut_75 (lv_at hl 0 rfl) ?_
    refine lv_bipush C.1 C.2.1 dX1_workOut_77 bp_64 ?_
    refine lv_icmp_lt (tgt := 86) C.1 C.2.1 dX1_workOut_79 rfl (fun c6 => ?_) (fun c6 => ?_)
    · have hf := (if_pos c6).symm.trans hf
      refine lv_iload C.1 C.2.1 dX1_workOut_86 (lv_at hl 7 rfl) ?_
      refine lv_if_eq (tgt := 116) C.1 C.2.1 dX1_workOut_88 rfl (fun c7 => ?_) (fun c7 => ?_)
      · have hf := (if_pos c7).symm.trans hf
        refine lv_iload C.1 C.2.1 dX1_workOut_116 (lv_at hl 1 rfl) ?_
        refine lv_iconst C.1 C.2.1 dX1_workOut_118 ic_1 ?_
        refine lv_icmp_ne (tgt := 144) C.1 C.2.1 dX1_workOut_119 rfl (fun c8 => ?_) (fun c8 => ?_)
        · have hf := (if_neg c8).symm.trans hf
          refine lv_iload C.1 C.2.1 dX1_workOut_144 (lv_at hl 6 rfl) ?_
          refine lv_aload_n C.1 C.2.1 dX1_workOut_146 rfl (lv_at hl 2 rfl) ?_
          refine m_getr C hW hx0 flX1_15 (by decide) dX1_workOut_147 (fun hk9 => ?_)
          refine lv_iload C.1 C.2.1 dX1_workOut_150 (lv_at hl 0 rfl) ?_
          obtain ⟨hb10, hf⟩ := gd hf
          refine m_lald C hW hk9 hb10 dX1_workOut_152 ?_
          refine lv_aload_n C.1 C.2.1 dX1_workOut_153 rfl (lv_at hl 2 rfl) ?_
          refine m_getr C hW hx0 flX1_15 (by decide) dX1_workOut_154 (fun hk11 => ?_)
          refine lv_iload C.1 C.2.1 dX1_workOut_157 (lv_at hl 0 rfl) ?_
          refine lv_iconst C.1 C.2.1 dX1_workOut_159 ic_1 ?_
          refine lv_iadd C.1 C.2.1 dX1_workOut_160 ?_
          obtain ⟨hb12, hf⟩ := gd hf
          refine m_lald C hW hk11 hb12 dX1_workOut_161 ?_
          obtain ⟨q13, h14, hf⟩ := bd hf
          refine m_callS (As := [.int x4, .long (gJ S (gR S x0 1) (x2 - y0).toNatClampNeg), .long (gJ S (gR S x0 1) ((x2 - y0) + (1 : Int32)).toNatClampNeg)]) (rest := []) C hW (cX1_join_ok   h14) mlX1_31 rfl hl.1 rfl (Nat.le_of_ble_eq_true rfl) (Nat.le_of_ble_eq_true rfl) (Nat.le_of_ble_eq_true rfl) dX1_workOut_162 (fun H locs hW => ?_)
          refine lv_lstore (lv' := [(8, .long q13), (7, .int (x2 - y0)), (6, .int y0), (0, .ref (ad L x0)), (1, .ref (ad L x1)), (2, .int x2), (3, .int x3), (4, .int x4), (5, .int x5)]) C.1 C.2.1 dX1_workOut_165 hl (by decide) rfl (fun ls hl => ?_)
          exact kX1_workOut_167 hK4 C x0 x1 x3 (x2 - y0) q13 _ _ _ _ hx0 hx1 hW (lv_sub hl [3, 4, 6, 1, 0] rfl) hf
        · have hf := (if_pos c8).symm.trans hf
          refine lv_aload_n C.1 C.2.1 dX1_workOut_122 rfl (lv_at hl 2 rfl) ?_
          refine m_getr C hW hx0 flX1_15 (by decide) dX1_workOut_123 (fun hk15 => ?_)
          refine lv_iload C.1 C.2.1 dX1_workOut_126 (lv_at hl 0 rfl) ?_
          obtain ⟨hb16, hf⟩ := gd hf
          refine m_lald C hW hk15 hb16 dX1_workOut_128 ?_
          refine lv_lconst C.1 C.2.1 dX1_workOut_129 lc_0 ?_
          refine W.lcmp C.1 C.2.1 dX1_workOut_130 ?_
          refine lv_if_ne (tgt := 138) C.1 C.2.1 dX1_workOut_131 rfl (fun c17 => ?_) (fun c17 => ?_)
          · have hf := (if_neg c17).symm.trans hf
            refine lv_lconst C.1 C.2.1 dX1_workOut_138 lc_0 ?_
            exact kX1_workOut_139 hK4 C x0 x1 x3 (x2 - y0) (0 : Int64) _ _ _ _ hx0 hx1 hW (lv_sub hl [2, 3, 5, 0] rfl) hf
          · have hf := (if_pos c17).symm.trans hf
            refine lv_lconst C.1 C.2.1 dX1_workOut_134 lc_1 ?_
            refine lv_goto (tgt := 139) C.1 C.2.1 dX1_workOut_135 rfl ?_
            exact kX1_workOut_139 hK4 C x0 x1 x3 (x2 - y0) (1 : Int64) _ _ _ _ hx0 hx1 hW (lv_sub hl [2, 3, 5, 0] rfl) hf
      · have hf := (if_neg c7).symm.trans hf
        refine lv_iload C.1 C.2.1 dX1_workOut_91 (lv_at hl 6 rfl) ?_
        refine lv_if_gt (tgt := 103) C.1 C.2.1 dX1_workOut_93 rfl (fun c18 => ?_) (fun c18 => ?_)
        · have hf := (if_pos c18).symm.trans hf
          refine lv_aload_n C.1 C.2.1 dX1_workOut_103 rfl (lv_at hl 3 rfl) ?_
          refine lv_iload C.1 C.2.1 dX1_workOut_104 (lv_at hl 6 rfl) ?_
          refine lv_bipush C.1 C.2.1 dX1_workOut_106 bp_37 ?_
          refine lv_isub C.1 C.2.1 dX1_workOut_108 ?_
          obtain ⟨hb19, hf⟩ := gd hf
          refine m_iald C hW hx1 hb19 dX1_workOut_109 ?_
          refine lv_i2l C.1 C.2.1 dX1_workOut_110 rfl ?_
          exact kX1_workOut_111 hK4 C x0 x1 x3 (x2 - y0) ((gI S x1 (x4 - (37 : Int32)).toNatClampNeg).toInt64) _ _ _ _ hx0 hx1 hW (lv_sub hl [2, 3, 5, 0] rfl) hf
        · have hf := (if_neg c18).symm.trans hf
          refine lv_iload C.1 C.2.1 dX1_workOut_96 (lv_at hl 6 rfl) ?_
          refine lv_ineg C.1 C.2.1 dX1_workOut_98 ?_
          refine lv_i2l C.1 C.2.1 dX1_workOut_99 rfl ?_
          refine lv_goto (tgt := 111) C.1 C.2.1 dX1_workOut_100 rfl ?_
          exact kX1_workOut_111 hK4 C x0 x1 x3 (x2 - y0) ((-x4).toInt64) _ _ _ _ hx0 hx1 hW (lv_sub hl [2, 3, 5, 0] rfl) hf
    · have hf := (if_neg c6).symm.trans hf
      refine lv_ldc2 C.1 C.2.1 C.2.2.2.1 (C.2.2.2.2.1 _ kw_935) dX1_workOut_82 ?_
      cases hf
      exact m_lret C hW dX1_workOut_85

set_option maxRecDepth 100000 in
theorem kX1_workOut_39 {p : Program} {l : Launch} {e : Env} {s : State} {m : MethodId} {av : Array Value} {below : List Frame} {meth : Method} {c : Code} {A : Nat → Prop} {G : Gv} {L : List Nat} {q : (Int64 × MS)} {K4 : Nat → Nat → Int32 → Int32 → MS → Option (Int64 × MS)} (hK4 : ∀ (x0 : Nat) (x1 : Nat) (x2 : Int32) (x3 : Int32) (S : MS) (H : Heap) (locs : List Loc) (ls : Array Slot), (x0 < shX.1 ∧ shX.2.1 x0 = 1) → (x1 < shX.1 ∧ shX.2.1 x1 = 13) → mW G shX L S A s H locs → lv_has ls 10 [(0, .ref (ad L x0)), (1, .ref (ad L x1)), (2, .int x2), (3, .int x3)] → K4 x0 x1 x2 x3 S = some q → W p l e (rmd (2)) s m av below meth c H locs 0 0 (MQ below (mQ G shX L q.2 (some (.long q.1)) A) av s 0 0 A) (F0 m 4 ls [])) (C : mC p s m av meth c cX1_workOut RX1 10 (some .long)) : ∀ (x0 : Nat) (x1 : Nat) (x2 : Int32) (x3 : Int32) (x4 : Int32) (y0 : Int32) (S : MS) (H : Heap) (locs : List Loc) (ls : Array Slot), (x0 < shX.1 ∧ shX.2.1 x0 = 1) → (x1 < shX.1 ∧ shX.2.1 x1 = 13) → mW G shX L S A s H locs → lv_has ls 10 [(0, .ref (ad L x0)), (1, .ref (ad L x1)), (2, .int x2), (3, .int x3), (4, .int x4)] → fX1_workOut_39 K4 x0 x1 x2 x3 x4 y0 S = some q → W p l e (rmd (2)) s m av below meth c H locs 0 0 (MQ below (mQ G shX L q.2 (some (.long q.1)) A) av s 0 0 A) (F0 m 39 ls [.int y0]) := by
  intro x0 x1 x2 x3 x4 y0 S H locs ls hx0 hx1 hW hl hf
  unfold fX1_workOut_39 at hf
  refine lv_istore (lv' := [(5, .int y0), (0, .ref (ad L x0)), (1, .ref (ad L x1)), (2, .int x2), (3, .int x3), (4, .int x4)]) C.1 C.2.1 dX1_workOut_39 hl (by decide) rfl (fun ls hl => ?_)
  refine lv_iload C.1 C.2.1 dX1_workOut_41 (lv_at hl 0 rfl) ?_
  refine lv_if_eq (tgt := 50) C.1 C.2.1 dX1_workOut_43 rfl (fun c20 => ?_) (fun c20 => ?_)
  · have hf := (if_pos c20).symm.trans hf
    refine lv_iload C.1 C.2.1 dX1_workOut_50 (lv_at hl 5 rfl) ?_
    refine lv_bipush C.1 C.2.1 dX1_workOut_52 bp_36 ?_
    refine lv_icmp_ne (tgt := 61) C.1 C.2.1 dX1_workOut_54 rfl (fun c21 => ?_) (fun c21 => ?_)
    · have hf := (if_neg c21).symm.trans hf
      refine lv_iconst C.1 C.2.1 dX1_workOut_61 ic_2 ?_
      exact kX1_workOut_62 hK4 C x0 x1 x2 x3 x4 y0 (2 : Int32) _ _ _ _ hx0 hx1 hW (lv_sub hl [1, 2, 3, 4, 5, 0] rfl) hf
    · have hf := (if_pos c21).symm.trans hf
      refine lv_iconst C.1 C.2.1 dX1_workOut_57 ic_1 ?_
      refine lv_goto (tgt := 62) C.1 C.2.1 dX1_workOut_58 rfl ?_
      exact kX1_workOut_62 hK4 C x0 x1 x2 x3 x4 y0 (1 : Int32) _ _ _ _ hx0 hx1 hW (lv_sub hl [1, 2, 3, 4, 5, 0] rfl) hf
  · have hf := (if_neg c20).symm.trans hf
    refine lv_iconst C.1 C.2.1 dX1_workOut_46 ic_0 ?_
    refine lv_goto (tgt := 62) C.1 C.2.1 dX1_workOut_47 rfl ?_
    exact kX1_workOut_62 hK4 C x0 x1 x2 x3 x4 y0 (0 : Int32) _ _ _ _ hx0 hx1 hW (lv_sub hl [1, 2, 3, 4, 5, 0] rfl) hf

set_option maxRecDepth 100000 in
theorem kX1_workOut_34 {p : Program} {l : Launch} {e : Env} {s : State} {m : MethodId} {av : Array Value} {below : List Frame} {meth : Method} {c : Code} {A : Nat → Prop} {G : Gv} {L : List Nat} {q : (Int64 × MS)} {K4 : Nat → Nat → Int32 → Int32 → MS → Option (Int64 × MS)} (hK4 : ∀ (x0 : Nat) (x1 : Nat) (x2 : Int32) (x3 : Int32) (S : MS) (H : Heap) (locs : List Loc) (ls : Array Slot), (x0 < shX.1 ∧ shX.2.1 x0 = 1) → (x1 < shX.1 ∧ shX.2.1 x1 = 13) → mW G shX L S A s H locs → lv_has ls 10 [(0, .ref (ad L x0)), (1, .ref (ad L x1)), (2, .int x2), (3, .int x3)] → K4 x0 x1 x2 x3 S = some q → W p l e (rmd (2)) s m av below meth c H locs 0 0 (MQ below (mQ G shX L q.2 (some (.long q.1)) A) av s 0 0 A) (F0 m 4 ls [])) (C : mC p s m av meth c cX1_workOut RX1 10 (some .long)) : ∀ (x0 : Nat) (x1 : Nat) (x2 : Int32) (x3 : Int32) (x4 : Int32) (S : MS) (H : Heap) (locs : List Loc) (ls : Array Slot), (x0 < shX.1 ∧ shX.2.1 x0 = 1) → (x1 < shX.1 ∧ shX.2.1 x1 = 13) → mW G shX L S A s H locs → lv_has ls 10 [(0, .ref (ad L x0)), (1, .ref (ad L x1)), (2, .int x2), (3, .int x3), (4, .int x4)] → fX1_workOut_34 K4 x0 x1 x2 x3 x4 S = some q → W p l e (rmd (2)) s m av below meth c H locs 0 0 (MQ below (mQ G shX L q.2 (some (.long q.1)) A) av s 0 0 A) (F0 m 34 ls []) := by
  intro x0 x1 x2 x3 x4 S H locs ls hx0 hx1 hW hl hf
  unfold fX1_workOut_34 at hf
  refine lv_iconst C.1 C.2.1 dX1_workOut_34 ic_1 ?_
  refine lv_goto (tgt := 39) C.1 C.2.1 dX1_workOut_35 rfl ?_
  exact kX1_workOut_39 hK4 C x0 x1 x2 x3 x4 (1 : Int32) _ _ _ _ hx0 hx1 hW (lv_sub hl [0, 1, 2, 3, 4] rfl) hf

set_option maxRecDepth 100000 in
theorem kX1_workOut_4 {p : Program} {l : Launch} {e : Env} {s : State} {m : MethodId} {av : Array Value} {below : List Frame} {meth : Method} {c : Code} {A : Nat → Prop} {G : Gv} {L : List Nat} {q : (Int64 × MS)}  (C : mC p s m av meth c cX1_workOut RX1 10 (some .long)) : ∀ (n : Nat) (x0 : Nat) (x1 : Nat) (x2 : Int32) (x3 : Int32) (S : MS) (H : Heap) (locs : List Loc) (ls : Array Slot), (x0 < shX.1 ∧ shX.2.1 x0 = 1) → (x1 < shX.1 ∧ shX.2.1 x1 = 13) → mW G shX L S A s H locs → lv_has ls 10 [(0, .ref (ad L x0)), (1, .ref (ad L x1)), (2, .int x2), (3, .int x3)] → fX1_workOut_4  n x0 x1 x2 x3 S = some q → W p l e (rmd (2)) s m av below meth c H locs 0 0 (MQ below (mQ G shX L q.2 (some (.long q.1)) A) av s 0 0 A) (F0 m 4 ls []) := by
  intro n
  induction n with
  | zero =>
    intro x0 x1 x2 x3 S H locs ls hx0 hx1 hW hl hf
    rw [fX1_workOut_4] at hf
    cases hf
  | succ n ih =>
    intro x0 x1 x2 x3 S H locs ls hx0 hx1 hW hl hf
    rw [fX1_workOut_4] at hf
    refine lv_iload_n C.1 C.2.1 dX1_workOut_4 rfl (lv_at hl 3 rfl) ?_
    refine lv_aload_n C.1 C.2.1 dX1_workOut_5 rfl (lv_at hl 0 rfl) ?_
    refine m_geti C hW hx0 flX1_19 dX1_workOut_6 ?_
    refine lv_icmp_ge (tgt := 209) C.1 C.2.1 dX1_workOut_9 rfl (fun c22 => ?_) (fun c22 => ?_)
    · have hf := (if_pos c22).symm.trans hf
      refine lv_iload_n C.1 C.2.1 dX1_workOut_209 rfl (lv_at hl 2 rfl) ?_
      refine lv_iconst C.1 C.2.1 dX1_workOut_210 ic_1 ?_
      refine lv_icmp_ne (tgt := 223) C.1 C.2.1 dX1_workOut_211 rfl (fun c23 => ?_) (fun c23 => ?_)
      · have hf := (if_neg c23).symm.trans hf
        refine lv_ldc2 C.1 C.2.1 C.2.2.2.1 (C.2.2.2.2.1 _ kw_935) dX1_workOut_223 ?_
        cases hf
        exact m_lret C hW dX1_workOut_226
      · have hf := (if_pos c23).symm.trans hf
        refine lv_aload_n C.1 C.2.1 dX1_workOut_214 rfl (lv_at hl 0 rfl) ?_
        refine m_getr C hW hx0 flX1_15 (by decide) dX1_workOut_215 (fun hk24 => ?_)
        refine lv_iconst C.1 C.2.1 dX1_workOut_218 ic_0 ?_
        obtain ⟨hb25, hf⟩ := gd hf
        refine m_lald C hW hk24 hb25 dX1_workOut_219 ?_
        refine lv_goto (tgt := 226) C.1 C.2.1 dX1_workOut_220 rfl ?_
        cases hf
        exact m_lret C hW dX1_workOut_226
    · have hf := (if_neg c22).symm.trans hf
      refine lv_aload_n C.1 C.2.1 dX1_workOut_12 rfl (lv_at hl 0 rfl) ?_
      refine m_getr C hW hx0 flX1_11 (by decide) dX1_workOut_13 (fun hk26 => ?_)
      refine lv_iload_n C.1 C.2.1 dX1_workOut_16 rfl (lv_at hl 3 rfl) ?_
      obtain ⟨hb27, hf⟩ := gd hf
      refine m_iald C hW hk26 hb27 dX1_workOut_17 ?_
      refine lv_ineg C.1 C.2.1 dX1_workOut_18 ?_
      refine lv_istore (lv' := [(4, .int (-(gI S (gR S x0 0) x3.toNatClampNeg))), (0, .ref (ad L x0)), (1, .ref (ad L x1)), (2, .int x2), (3, .int x3)]) C.1 C.2.1 dX1_workOut_19 hl (by decide) rfl (fun ls hl => ?_)
      refine lv_iload C.1 C.2.1 dX1_workOut_21 (lv_at hl 0 rfl) ?_
      refine lv_if_le (tgt := 34) C.1 C.2.1 dX1_workOut_23 rfl (fun c28 => ?_) (fun c28 => ?_)
      · have hf := (if_pos c28).symm.trans hf
        exact kX1_workOut_34 ih C x0 x1 x2 x3 (-(gI S (gR S x0 0) x3.toNatClampNeg)) _ _ _ _ hx0 hx1 hW (lv_sub hl [1, 2, 3, 4, 0] rfl) hf
      · have hf := (if_neg c28).symm.trans hf
        refine lv_iload C.1 C.2.1 dX1_workOut_26 (lv_at hl 0 rfl) ?_
        obtain ⟨q29, h30, hf⟩ := bd hf
        refine m_callS (As := [.int (-(gI S (gR S x0 0) x3.toNatClampNeg))]) (rest := []) C hW (cX5_isName_ok   h30) mlX1_23 rfl hl.1 rfl (Nat.le_of_ble_eq_true rfl) (Nat.le_of_ble_eq_true rfl) (Nat.le_of_ble_eq_true rfl) dX1_workOut_28 (fun H locs hW => ?_)
        refine lv_if_eq (tgt := 38) C.1 C.2.1 dX1_workOut_31 rfl (fun c31 => ?_) (fun c31 => ?_)
        · have hf := (if_pos c31).symm.trans hf
          refine lv_iconst C.1 C.2.1 dX1_workOut_38 ic_0 ?_
          exact kX1_workOut_39 ih C x0 x1 x2 x3 (-(gI S (gR S x0 0) x3.toNatClampNeg)) (0 : Int32) _ _ _ _ hx0 hx1 hW (lv_sub hl [1, 2, 3, 4, 0] rfl) hf
        · have hf := (if_neg c31).symm.trans hf
          exact kX1_workOut_34 ih C x0 x1 x2 x3 (-(gI S (gR S x0 0) x3.toNatClampNeg)) _ _ _ _ hx0 hx1 hW (lv_sub hl [1, 2, 3, 4, 0] rfl) hf

set_option maxRecDepth 100000 in
theorem cX1_workOut_ok {l : Launch} {G : Gv} {L : List Nat} {S : MS} {a0 : Nat} {a1 : Nat} {q : (Int64 × MS)} (ha0 : a0 < shX.1 ∧ shX.2.1 a0 = 1) (ha1 : a1 < shX.1 ∧ shX.2.1 a1 = 13) (hf : fX1_workOut a0 a1 S = some q) : Mt l yX1_workOut cX1_workOut 10 (some .long) (2) G shX L S [.ref (ad L a0), .ref (ad L a1)] (some (.long q.1)) q.2 := by
  refine m_enter (lv := [(0, .ref (ad L a0)), (1, .ref (ad L a1))]) (plainFor_of_name (by decide)) (Nat.le_of_ble_eq_true rfl) rfl ?_
  intro p e s m below meth c A ls C hW hl
  unfold fX1_workOut at hf
  refine lv_iconst C.1 C.2.1 dX1_workOut_0 ic_0 ?_
  refine lv_istore_n (lv' := [(2, .int (0 : Int32)), (0, .ref (ad L a0)), (1, .ref (ad L a1))]) C.1 C.2.1 dX1_workOut_1 rfl hl (by decide) rfl (fun ls hl => ?_)
  refine lv_iconst C.1 C.2.1 dX1_workOut_2 ic_0 ?_
  refine lv_istore_n (lv' := [(3, .int (0 : Int32)), (2, .int (0 : Int32)), (0, .ref (ad L a0)), (1, .ref (ad L a1))]) C.1 C.2.1 dX1_workOut_3 rfl hl (by decide) rfl (fun ls hl => ?_)
  exact kX1_workOut_4  C 1000 a0 a1 (0 : Int32) (0 : Int32) _ _ _ _ ha0 ha1 hW (lv_sub hl [2, 3, 1, 0] rfl) hf

def fX2_note_66  (x0 : Nat) (x1 : Nat) (x2 : Int32) (S : MS) : Option MS := (if bnd (x2 + (4 : Int32)) (lnX (gR S x0 0)) = true then some (pI (pI S (gR S x0 0) ((x2 + (4 : Int32)).toNatClampNeg) (gI S x1 8)) x0 1 ((gI (pI S (gR S x0 0) ((x2 + (4 : Int32)).toNatClampNeg) (gI S x1 8)) x0 1) + (1 : Int32))) else none)
def fX2_note_42  (x0 : Nat) (x1 : Nat) (x2 : Int32) (S : MS) : Option MS := (if bnd (x2 + (2 : Int32)) (lnX (gR S x0 0)) = true then (if bnd (x2 + (3 : Int32)) (lnX (gR (pI S (gR S x0 0) ((x2 + (2 : Int32)).toNatClampNeg) (gI S x1 6)) x0 0)) = true then fX2_note_66  x0 x1 x2 (pI (pI S (gR S x0 0) ((x2 + (2 : Int32)).toNatClampNeg) (gI S x1 6)) (gR (pI S (gR S x0 0) ((x2 + (2 : Int32)).toNatClampNeg) (gI S x1 6)) x0 0) ((x2 + (3 : Int32)).toNatClampNeg) (gI (pI S (gR S x0 0) ((x2 + (2 : Int32)).toNatClampNeg) (gI S x1 6)) x1 7)) else none) else none)
def fX2_note_13  (x0 : Nat) (x1 : Nat) (S : MS) : Option MS := (if bnd ((gI S x0 1) * (5 : Int32)) (lnX (gR S x0 0)) = true then (if bnd (((gI S x0 1) * (5 : Int32)) + (1 : Int32)) (lnX (gR (pI S (gR S x0 0) (((gI S x0 1) * (5 : Int32)).toNatClampNeg) (gI S x1 4)) x0 0)) = true then fX2_note_42  x0 x1 ((gI S x0 1) * (5 : Int32)) (pI (pI S (gR S x0 0) (((gI S x0 1) * (5 : Int32)).toNatClampNeg) (gI S x1 4)) (gR (pI S (gR S x0 0) (((gI S x0 1) * (5 : Int32)).toNatClampNeg) (gI S x1 4)) x0 0) ((((gI S x0 1) * (5 : Int32)) + (1 : Int32)).toNatClampNeg) (gI (pI S (gR S x0 0) (((gI S x0 1) * (5 : Int32)).toNatClampNeg) (gI S x1 4)) x1 5)) else none) else none)
def fX2_note (a0 : Nat) (a1 : Nat) (S : MS) : Option MS := (if (gI S a0 1) < (20 : Int32) then fX2_note_13  a0 a1 S else (fX2_dropOldest  a0 S).bind fun q12 => fX2_note_13  a0 a1 q12)
set_option maxRecDepth 100000 in
theorem kX2_note_66 {p : Program} {l : Launch} {e : Env} {s : State} {m : MethodId} {av : Array Value} {below : List Frame} {meth : Method} {c : Code} {A : Nat → Prop} {G : Gv} {L : List Nat} {q : MS}  (C : mC p s m av meth c cX2_note RX2 3 none) : ∀ (x0 : Nat) (x1 : Nat) (x2 : Int32) (S : MS) (H : Heap) (locs : List Loc) (ls : Array Slot), (x0 < shX.1 ∧ shX.2.1 x0 = 2) → (x1 < shX.1 ∧ shX.2.1 x1 = 9) → mW G shX L S A s H locs → lv_has ls 3 [(0, .ref (ad L x0)), (1, .ref (ad L x1)), (2, .int x2)] → fX2_note_66  x0 x1 x2 S = some q → W p l e (rmd (2)) s m av below meth c H locs 0 0 (MQ below (mQ G shX L q none A) av s 0 0 A) (F0 m 66 ls []) := by
  intro x0 x1 x2 S H locs ls hx0 hx1 hW hl hf
  unfold fX2_note_66 at hf
  refine lv_aload_n C.1 C.2.1 dX2_note_66 rfl (lv_at hl 0 rfl) ?_
  refine m_getr C hW hx0 flX2_11 (by decide) dX2_note_67 (fun hk1 => ?_)
  refine lv_iload_n C.1 C.2.1 dX2_note_70 rfl (lv_at hl 2 rfl) ?_
  refine lv_iconst C.1 C.2.1 dX2_note_71 ic_4 ?_
  refine lv_iadd C.1 C.2.1 dX2_note_72 ?_
  refine lv_aload_n C.1 C.2.1 dX2_note_73 rfl (lv_at hl 1 rfl) ?_
  refine m_geti C hW hx1 flX2_36 dX2_note_74 ?_
  obtain ⟨hb2, hf⟩ := gd hf
  refine m_iast C hW hk1 hb2 dX2_note_77 (fun H locs hW => ?_)
  refine lv_aload_n C.1 C.2.1 dX2_note_78 rfl (lv_at hl 0 rfl) ?_
  refine lv_dup C.1 C.2.1 dX2_note_79 rfl ?_
  refine m_geti C hW hx0 flX2_15 dX2_note_80 ?_
  refine lv_iconst C.1 C.2.1 dX2_note_83 ic_1 ?_
  refine lv_iadd C.1 C.2.1 dX2_note_84 ?_
  refine m_puti C hW hx0 fpX2_15 dX2_note_85 (fun H locs hW => ?_)
  cases hf
  exact m_vret C hW dX2_note_88

set_option maxRecDepth 100000 in
theorem kX2_note_42 {p : Program} {l : Launch} {e : Env} {s : State} {m : MethodId} {av : Array Value} {below : List Frame} {meth : Method} {c : Code} {A : Nat → Prop} {G : Gv} {L : List Nat} {q : MS}  (C : mC p s m av meth c cX2_note RX2 3 none) : ∀ (x0 : Nat) (x1 : Nat) (x2 : Int32) (S : MS) (H : Heap) (locs : List Loc) (ls : Array Slot), (x0 < shX.1 ∧ shX.2.1 x0 = 2) → (x1 < shX.1 ∧ shX.2.1 x1 = 9) → mW G shX L S A s H locs → lv_has ls 3 [(0, .ref (ad L x0)), (1, .ref (ad L x1)), (2, .int x2)] → fX2_note_42  x0 x1 x2 S = some q → W p l e (rmd (2)) s m av below meth c H locs 0 0 (MQ below (mQ G shX L q none A) av s 0 0 A) (F0 m 42 ls []) := by
  intro x0 x1 x2 S H locs ls hx0 hx1 hW hl hf
  unfold fX2_note_42 at hf
  refine lv_aload_n C.1 C.2.1 dX2_note_42 rfl (lv_at hl 0 rfl) ?_
  refine m_getr C hW hx0 flX2_11 (by decide) dX2_note_43 (fun hk3 => ?_)
  refine lv_iload_n C.1 C.2.1 dX2_note_46 rfl (lv_at hl 2 rfl) ?_
  refine lv_iconst C.1 C.2.1 dX2_note_47 ic_2 ?_
  refine lv_iadd C.1 C.2.1 dX2_note_48 ?_
  refine lv_aload_n C.1 C.2.1 dX2_note_49 rfl (lv_at hl 1 rfl) ?_
  refine m_geti C hW hx1 flX2_30 dX2_note_50 ?_
  obtain ⟨hb4, hf⟩ := gd hf
  refine m_iast C hW hk3 hb4 dX2_note_53 (fun H locs hW => ?_)
  refine lv_aload_n C.1 C.2.1 dX2_note_54 rfl (lv_at hl 0 rfl) ?_
  refine m_getr C hW hx0 flX2_11 (by decide) dX2_note_55 (fun hk5 => ?_)
  refine lv_iload_n C.1 C.2.1 dX2_note_58 rfl (lv_at hl 2 rfl) ?_
  refine lv_iconst C.1 C.2.1 dX2_note_59 ic_3 ?_
  refine lv_iadd C.1 C.2.1 dX2_note_60 ?_
  refine lv_aload_n C.1 C.2.1 dX2_note_61 rfl (lv_at hl 1 rfl) ?_
  refine m_geti C hW hx1 flX2_33 dX2_note_62 ?_
  obtain ⟨hb6, hf⟩ := gd hf
  refine m_iast C hW hk5 hb6 dX2_note_65 (fun H locs hW => ?_)
  exact kX2_note_66  C x0 x1 x2 _ _ _ _ hx0 hx1 hW (lv_sub hl [0, 1, 2] rfl) hf

set_option maxRecDepth 100000 in
theorem kX2_note_13 {p : Program} {l : Launch} {e : Env} {s : State} {m : MethodId} {av : Array Value} {below : List Frame} {meth : Method} {c : Code} {A : Nat → Prop} {G : Gv} {L : List Nat} {q : MS}  (C : mC p s m av meth c cX2_note RX2 3 none) : ∀ (x0 : Nat) (x1 : Nat) (S : MS) (H : Heap) (locs : List Loc) (ls : Array Slot), (x0 < shX.1 ∧ shX.2.1 x0 = 2) → (x1 < shX.1 ∧ shX.2.1 x1 = 9) → mW G shX L S A s H locs → lv_has ls 3 [(0, .ref (ad L x0)), (1, .ref (ad L x1))] → fX2_note_13  x0 x1 S = some q → W p l e (rmd (2)) s m av below meth c H locs 0 0 (MQ below (mQ G shX L q none A) av s 0 0 A) (F0 m 13 ls []) := by
  intro x0 x1 S H locs ls hx0 hx1 hW hl hf
  unfold fX2_note_13 at hf
  refine lv_aload_n C.1 C.2.1 dX2_note_13 rfl (lv_at hl 0 rfl) ?_
  refine m_geti C hW hx0 flX2_15 dX2_note_14 ?_
  refine lv_iconst C.1 C.2.1 dX2_note_17 ic_5 ?_
  refine lv_imul C.1 C.2.1 dX2_note_18 ?_
  refine lv_istore_n (lv' := [(2, .int ((gI S x0 1) * (5 : Int32))), (0, .ref (ad L x0)), (1, .ref (ad L x1))]) C.1 C.2.1 dX2_note_19 rfl hl (by decide) rfl (fun ls hl => ?_)
  refine lv_aload_n C.1 C.2.1 dX2_note_20 rfl (lv_at hl 1 rfl) ?_
  refine m_getr C hW hx0 flX2_11 (by decide) dX2_note_21 (fun hk7 => ?_)
  refine lv_iload_n C.1 C.2.1 dX2_note_24 rfl (lv_at hl 0 rfl) ?_
  refine lv_aload_n C.1 C.2.1 dX2_note_25 rfl (lv_at hl 2 rfl) ?_
  refine m_geti C hW hx1 flX2_22 dX2_note_26 ?_
  obtain ⟨hb8, hf⟩ := gd hf
  refine m_iast C hW hk7 hb8 dX2_note_29 (fun H locs hW => ?_)
  refine lv_aload_n C.1 C.2.1 dX2_note_30 rfl (lv_at hl 1 rfl) ?_
  refine m_getr C hW hx0 flX2_11 (by decide) dX2_note_31 (fun hk9 => ?_)
  refine lv_iload_n C.1 C.2.1 dX2_note_34 rfl (lv_at hl 0 rfl) ?_
  refine lv_iconst C.1 C.2.1 dX2_note_35 ic_1 ?_
  refine lv_iadd C.1 C.2.1 dX2_note_36 ?_
  refine lv_aload_n C.1 C.2.1 dX2_note_37 rfl (lv_at hl 2 rfl) ?_
  refine m_geti C hW hx1 flX2_27 dX2_note_38 ?_
  obtain ⟨hb10, hf⟩ := gd hf
  refine m_iast C hW hk9 hb10 dX2_note_41 (fun H locs hW => ?_)
  exact kX2_note_42  C x0 x1 ((gI S x0 1) * (5 : Int32)) _ _ _ _ hx0 hx1 hW (lv_sub hl [1, 2, 0] rfl) hf

set_option maxRecDepth 100000 in
theorem cX2_note_ok {l : Launch} {G : Gv} {L : List Nat} {S : MS} {a0 : Nat} {a1 : Nat} {q : MS} (ha0 : a0 < shX.1 ∧ shX.2.1 a0 = 2) (ha1 : a1 < shX.1 ∧ shX.2.1 a1 = 9) (hf : fX2_note a0 a1 S = some q) : Mt l yX2_note cX2_note 3 none (2) G shX L S [.ref (ad L a0), .ref (ad L a1)] none q := by
  refine m_enter (lv := [(0, .ref (ad L a0)), (1, .ref (ad L a1))]) (plainFor_of_name (by decide)) (Nat.le_of_ble_eq_true rfl) rfl ?_
  intro p e s m below meth c A ls C hW hl
  unfold fX2_note at hf
  refine lv_aload_n C.1 C.2.1 dX2_note_0 rfl (lv_at hl 0 rfl) ?_
  refine m_geti C hW ha0 flX2_15 dX2_note_1 ?_
  refine lv_bipush C.1 C.2.1 dX2_note_4 bp_20 ?_
  refine lv_icmp_lt (tgt := 13) C.1 C.2.1 dX2_note_6 rfl (fun c11 => ?_) (fun c11 => ?_)
  · have hf := (if_pos c11).symm.trans hf
    exact kX2_note_13  C a0 a1 _ _ _ _ ha0 ha1 hW (lv_sub hl [0, 1] rfl) hf
  · have hf := (if_neg c11).symm.trans hf
    refine lv_aload_n C.1 C.2.1 dX2_note_9 rfl (lv_at hl 0 rfl) ?_
    obtain ⟨q12, h13, hf⟩ := bd hf
    refine m_callV (As := []) (rest := []) C hW ha0 (cX2_dropOldest_ok  ha0 h13) mlX2_19 (by decide) rfl hl.1 rfl (Nat.le_of_ble_eq_true rfl) (Nat.le_of_ble_eq_true rfl) (Nat.le_of_ble_eq_true rfl) dX2_note_10 (fun H locs hW => ?_)
    exact kX2_note_13  C a0 a1 _ _ _ _ ha0 ha1 hW (lv_sub hl [0, 1] rfl) hf

def fX6_forget (a0 : Nat) (S : MS) : Option MS := (fX7_empty  (gR S a0 0) S).bind fun q2 => some (pI q2 a0 2 (-1 : Int32))
set_option maxRecDepth 100000 in
theorem cX6_forget_ok {l : Launch} {G : Gv} {L : List Nat} {S : MS} {a0 : Nat} {q : MS} (ha0 : a0 < shX.1 ∧ shX.2.1 a0 = 6) (hf : fX6_forget a0 S = some q) : Mt l yX6_forget cX6_forget 1 none (2) G shX L S [.ref (ad L a0)] none q := by
  refine m_enter (lv := [(0, .ref (ad L a0))]) (plainFor_of_name (by decide)) (Nat.le_of_ble_eq_true rfl) rfl ?_
  intro p e s m below meth c A ls C hW hl
  unfold fX6_forget at hf
  refine lv_aload_n C.1 C.2.1 dX6_forget_0 rfl (lv_at hl 0 rfl) ?_
  refine m_getr C hW ha0 flX6_14 (by decide) dX6_forget_1 (fun hk1 => ?_)
  obtain ⟨q2, h3, hf⟩ := bd hf
  refine m_callV (As := []) (rest := []) C hW hk1 (cX7_empty_ok  hk1 h3) mlX6_24 (by decide) rfl hl.1 rfl (Nat.le_of_ble_eq_true rfl) (Nat.le_of_ble_eq_true rfl) (Nat.le_of_ble_eq_true rfl) dX6_forget_4 (fun H locs hW => ?_)
  refine lv_aload_n C.1 C.2.1 dX6_forget_7 rfl (lv_at hl 0 rfl) ?_
  refine lv_iconst C.1 C.2.1 dX6_forget_8 ic_m1 ?_
  refine m_puti C hW ha0 fpX6_27 dX6_forget_9 (fun H locs hW => ?_)
  cases hf
  exact m_vret C hW dX6_forget_12

def fX6_size (a0 : Nat) (S : MS) : Option Int32 := (fX7_size  (gR S a0 0) S).bind fun q2 => some q2
set_option maxRecDepth 100000 in
theorem cX6_size_ok {l : Launch} {G : Gv} {L : List Nat} {S : MS} {a0 : Nat} {q : Int32} (ha0 : a0 < shX.1 ∧ shX.2.1 a0 = 6) (hf : fX6_size a0 S = some q) : Mt l yX6_size cX6_size 1 (some .int) (2) G shX L S [.ref (ad L a0)] (some (.int q)) S := by
  refine m_enter (lv := [(0, .ref (ad L a0))]) (plainFor_of_name (by decide)) (Nat.le_of_ble_eq_true rfl) rfl ?_
  intro p e s m below meth c A ls C hW hl
  unfold fX6_size at hf
  refine lv_aload_n C.1 C.2.1 dX6_size_0 rfl (lv_at hl 0 rfl) ?_
  refine m_getr C hW ha0 flX6_14 (by decide) dX6_size_1 (fun hk1 => ?_)
  obtain ⟨q2, h3, hf⟩ := bd hf
  refine m_callV (As := []) (rest := []) C hW hk1 (cX7_size_ok  hk1 h3) mlX6_31 (by decide) rfl hl.1 rfl (Nat.le_of_ble_eq_true rfl) (Nat.le_of_ble_eq_true rfl) (Nat.le_of_ble_eq_true rfl) dX6_size_4 (fun H locs hW => ?_)
  cases hf
  exact m_iret C hW dX6_size_7

def fX6_reach (a0 : Nat) (S : MS) : Option Int32 := (if gI S a0 2 = (-1 : Int32) then (fX7_size  (gR S a0 0) S).bind fun q3 => some q3 else some (gI S a0 2))
set_option maxRecDepth 100000 in
theorem cX6_reach_ok {l : Launch} {G : Gv} {L : List Nat} {S : MS} {a0 : Nat} {q : Int32} (ha0 : a0 < shX.1 ∧ shX.2.1 a0 = 6) (hf : fX6_reach a0 S = some q) : Mt l yX6_reach cX6_reach 1 (some .int) (2) G shX L S [.ref (ad L a0)] (some (.int q)) S := by
  refine m_enter (lv := [(0, .ref (ad L a0))]) (plainFor_of_name (by decide)) (Nat.le_of_ble_eq_true rfl) rfl ?_
  intro p e s m below meth c A ls C hW hl
  unfold fX6_reach at hf
  refine lv_aload_n C.1 C.2.1 dX6_reach_0 rfl (lv_at hl 0 rfl) ?_
  refine m_geti C hW ha0 flX6_27 dX6_reach_1 ?_
  refine lv_iconst C.1 C.2.1 dX6_reach_4 ic_m1 ?_
  refine lv_icmp_ne (tgt := 18) C.1 C.2.1 dX6_reach_5 rfl (fun c1 => ?_) (fun c1 => ?_)
  · have hf := (if_neg c1).symm.trans hf
    refine lv_aload_n C.1 C.2.1 dX6_reach_18 rfl (lv_at hl 0 rfl) ?_
    refine m_geti C hW ha0 flX6_27 dX6_reach_19 ?_
    cases hf
    exact m_iret C hW dX6_reach_22
  · have hf := (if_pos c1).symm.trans hf
    refine lv_aload_n C.1 C.2.1 dX6_reach_8 rfl (lv_at hl 0 rfl) ?_
    refine m_getr C hW ha0 flX6_14 (by decide) dX6_reach_9 (fun hk2 => ?_)
    obtain ⟨q3, h4, hf⟩ := bd hf
    refine m_callV (As := []) (rest := []) C hW hk2 (cX7_size_ok  hk2 h4) mlX6_31 (by decide) rfl hl.1 rfl (Nat.le_of_ble_eq_true rfl) (Nat.le_of_ble_eq_true rfl) (Nat.le_of_ble_eq_true rfl) dX6_reach_12 (fun H locs hW => ?_)
    refine lv_goto (tgt := 22) C.1 C.2.1 dX6_reach_15 rfl ?_
    cases hf
    exact m_iret C hW dX6_reach_22

def fX6_add_64  (x0 : Nat) (y0 : Nat) (y1 : Int32) (y2 : Int32) (S : MS) : Option (Int32 × MS) := (fX7_put  y0 y1 y2 S).bind fun q1 => (fX7_close  (gR q1 x0 0) q1).bind fun q4 => (fX7_size  (gR q4 x0 0) q4).bind fun q7 => some (q7 - (1 : Int32), q4)
def fX6_add (a0 : Nat) (a1 : Int32) (a2 : Int32) (a3 : Int32) (a4 : Int32) (a5 : Int32) (S : MS) : Option (Int32 × MS) := (fX7_isFull  (gR S a0 0) S).bind fun q10 => (if q10 = (0 : Int32) then (fX7_put  (gR S a0 0) (0 : Int32) a1 S).bind fun q14 => (fX7_put  (gR q14 a0 0) (1 : Int32) a2 q14).bind fun q17 => (fX7_put  (gR q17 a0 0) (2 : Int32) a3 q17).bind fun q20 => (fX7_put  (gR q20 a0 0) (3 : Int32) a4 q20).bind fun q23 => (if a5 = (0 : Int32) then fX6_add_64  a0 (gR q23 a0 0) (4 : Int32) (0 : Int32) q23 else fX6_add_64  a0 (gR q23 a0 0) (4 : Int32) (1 : Int32) q23) else some ((-1 : Int32), S))
set_option maxRecDepth 100000 in
theorem kX6_add_64 {p : Program} {l : Launch} {e : Env} {s : State} {m : MethodId} {av : Array Value} {below : List Frame} {meth : Method} {c : Code} {A : Nat → Prop} {G : Gv} {L : List Nat} {q : (Int32 × MS)}  (C : mC p s m av meth c cX6_add RX6 6 (some .int)) : ∀ (x0 : Nat) (y0 : Nat) (y1 : Int32) (y2 : Int32) (S : MS) (H : Heap) (locs : List Loc) (ls : Array Slot), (x0 < shX.1 ∧ shX.2.1 x0 = 6) → (y0 < shX.1 ∧ shX.2.1 y0 = 7) → mW G shX L S A s H locs → lv_has ls 6 [(0, .ref (ad L x0))] → fX6_add_64  x0 y0 y1 y2 S = some q → W p l e (rmd (2)) s m av below meth c H locs 0 0 (MQ below (mQ G shX L q.2 (some (.int q.1)) A) av s 0 0 A) (F0 m 64 ls [.int y2, .int y1, .ref (ad L y0)]) := by
  intro x0 y0 y1 y2 S H locs ls hx0 hy0 hW hl hf
  unfold fX6_add_64 at hf
  obtain ⟨q1, h2, hf⟩ := bd hf
  refine m_callV (As := [.int y1, .int y2]) (rest := []) C hW hy0 (cX7_put_ok  hy0 h2) mlX6_39 (by decide) rfl hl.1 rfl (Nat.le_of_ble_eq_true rfl) (Nat.le_of_ble_eq_true rfl) (Nat.le_of_ble_eq_true rfl) dX6_add_64 (fun H locs hW => ?_)
  refine lv_aload_n C.1 C.2.1 dX6_add_67 rfl (lv_at hl 0 rfl) ?_
  refine m_getr C hW hx0 flX6_14 (by decide) dX6_add_68 (fun hk3 => ?_)
  obtain ⟨q4, h5, hf⟩ := bd hf
  refine m_callV (As := []) (rest := []) C hW hk3 (cX7_close_ok  hk3 h5) mlX6_42 (by decide) rfl hl.1 rfl (Nat.le_of_ble_eq_true rfl) (Nat.le_of_ble_eq_true rfl) (Nat.le_of_ble_eq_true rfl) dX6_add_71 (fun H locs hW => ?_)
  refine lv_aload_n C.1 C.2.1 dX6_add_74 rfl (lv_at hl 0 rfl) ?_
  refine m_getr C hW hx0 flX6_14 (by decide) dX6_add_75 (fun hk6 => ?_)
  obtain ⟨q7, h8, hf⟩ := bd hf
  refine m_callV (As := []) (rest := []) C hW hk6 (cX7_size_ok  hk6 h8) mlX6_31 (by decide) rfl hl.1 rfl (Nat.le_of_ble_eq_true rfl) (Nat.le_of_ble_eq_true rfl) (Nat.le_of_ble_eq_true rfl) dX6_add_78 (fun H locs hW => ?_)
  refine lv_iconst C.1 C.2.1 dX6_add_81 ic_1 ?_
  refine lv_isub C.1 C.2.1 dX6_add_82 ?_
  cases hf
  exact m_iret C hW dX6_add_83

set_option maxRecDepth 100000 in
theorem cX6_add_ok {l : Launch} {G : Gv} {L : List Nat} {S : MS} {a0 : Nat} {a1 : Int32} {a2 : Int32} {a3 : Int32} {a4 : Int32} {a5 : Int32} {q : (Int32 × MS)} (ha0 : a0 < shX.1 ∧ shX.2.1 a0 = 6) (hf : fX6_add a0 a1 a2 a3 a4 a5 S = some q) : Mt l yX6_add cX6_add 6 (some .int) (2) G shX L S [.ref (ad L a0), .int a1, .int a2, .int a3, .int a4, .int a5] (some (.int q.1)) q.2 := by
  refine m_enter (lv := [(0, .ref (ad L a0)), (1, .int a1), (2, .int a2), (3, .int a3), (4, .int a4), (5, .int a5)]) (plainFor_of_name (by decide)) (Nat.le_of_ble_eq_true rfl) rfl ?_
  intro p e s m below meth c A ls C hW hl
  unfold fX6_add at hf
  refine lv_aload_n C.1 C.2.1 dX6_add_0 rfl (lv_at hl 0 rfl) ?_
  refine m_getr C hW ha0 flX6_14 (by decide) dX6_add_1 (fun hk9 => ?_)
  obtain ⟨q10, h11, hf⟩ := bd hf
  refine m_callV (As := []) (rest := []) C hW hk9 (cX7_isFull_ok  hk9 h11) mlX6_35 (by decide) rfl hl.1 rfl (Nat.le_of_ble_eq_true rfl) (Nat.le_of_ble_eq_true rfl) (Nat.le_of_ble_eq_true rfl) dX6_add_4 (fun H locs hW => ?_)
  refine lv_if_eq (tgt := 12) C.1 C.2.1 dX6_add_7 rfl (fun c12 => ?_) (fun c12 => ?_)
  · have hf := (if_pos c12).symm.trans hf
    refine lv_aload_n C.1 C.2.1 dX6_add_12 rfl (lv_at hl 0 rfl) ?_
    refine m_getr C hW ha0 flX6_14 (by decide) dX6_add_13 (fun hk13 => ?_)
    refine lv_iconst C.1 C.2.1 dX6_add_16 ic_0 ?_
    refine lv_iload_n C.1 C.2.1 dX6_add_17 rfl (lv_at hl 1 rfl) ?_
    obtain ⟨q14, h15, hf⟩ := bd hf
    refine m_callV (As := [.int (0 : Int32), .int a1]) (rest := []) C hW hk13 (cX7_put_ok  hk13 h15) mlX6_39 (by decide) rfl hl.1 rfl (Nat.le_of_ble_eq_true rfl) (Nat.le_of_ble_eq_true rfl) (Nat.le_of_ble_eq_true rfl) dX6_add_18 (fun H locs hW => ?_)
    refine lv_aload_n C.1 C.2.1 dX6_add_21 rfl (lv_at hl 0 rfl) ?_
    refine m_getr C hW ha0 flX6_14 (by decide) dX6_add_22 (fun hk16 => ?_)
    refine lv_iconst C.1 C.2.1 dX6_add_25 ic_1 ?_
    refine lv_iload_n C.1 C.2.1 dX6_add_26 rfl (lv_at hl 2 rfl) ?_
    obtain ⟨q17, h18, hf⟩ := bd hf
    refine m_callV (As := [.int (1 : Int32), .int a2]) (rest := []) C hW hk16 (cX7_put_ok  hk16 h18) mlX6_39 (by decide) rfl hl.1 rfl (Nat.le_of_ble_eq_true rfl) (Nat.le_of_ble_eq_true rfl) (Nat.le_of_ble_eq_true rfl) dX6_add_27 (fun H locs hW => ?_)
    refine lv_aload_n C.1 C.2.1 dX6_add_30 rfl (lv_at hl 0 rfl) ?_
    refine m_getr C hW ha0 flX6_14 (by decide) dX6_add_31 (fun hk19 => ?_)
    refine lv_iconst C.1 C.2.1 dX6_add_34 ic_2 ?_
    refine lv_iload_n C.1 C.2.1 dX6_add_35 rfl (lv_at hl 3 rfl) ?_
    obtain ⟨q20, h21, hf⟩ := bd hf
    refine m_callV (As := [.int (2 : Int32), .int a3]) (rest := []) C hW hk19 (cX7_put_ok  hk19 h21) mlX6_39 (by decide) rfl hl.1 rfl (Nat.le_of_ble_eq_true rfl) (Nat.le_of_ble_eq_true rfl) (Nat.le_of_ble_eq_true rfl) dX6_add_36 (fun H locs hW => ?_)
    refine lv_aload_n C.1 C.2.1 dX6_add_39 rfl (lv_at hl 0 rfl) ?_
    refine m_getr C hW ha0 flX6_14 (by decide) dX6_add_40 (fun hk22 => ?_)
    refine lv_iconst C.1 C.2.1 dX6_add_43 ic_3 ?_
    refine lv_iload C.1 C.2.1 dX6_add_44 (lv_at hl 4 rfl) ?_
    obtain ⟨q23, h24, hf⟩ := bd hf
    refine m_callV (As := [.int (3 : Int32), .int a4]) (rest := []) C hW hk22 (cX7_put_ok  hk22 h24) mlX6_39 (by decide) rfl hl.1 rfl (Nat.le_of_ble_eq_true rfl) (Nat.le_of_ble_eq_true rfl) (Nat.le_of_ble_eq_true rfl) dX6_add_46 (fun H locs hW => ?_)
    refine lv_aload_n C.1 C.2.1 dX6_add_49 rfl (lv_at hl 0 rfl) ?_
    refine m_getr C hW ha0 flX6_14 (by decide) dX6_add_50 (fun hk25 => ?_)
    refine lv_iconst C.1 C.2.1 dX6_add_53 ic_4 ?_
    refine lv_iload C.1 C.2.1 dX6_add_54 (lv_at hl 5 rfl) ?_
    refine lv_if_eq (tgt := 63) C.1 C.2.1 dX6_add_56 rfl (fun c26 => ?_) (fun c26 => ?_)
    · have hf := (if_pos c26).symm.trans hf
      refine lv_iconst C.1 C.2.1 dX6_add_63 ic_0 ?_
      exact kX6_add_64  C a0 (gR q23 a0 0) (4 : Int32) (0 : Int32) _ _ _ _ ha0 hk25 hW (lv_sub hl [0] rfl) hf
    · have hf := (if_neg c26).symm.trans hf
      refine lv_iconst C.1 C.2.1 dX6_add_59 ic_1 ?_
      refine lv_goto (tgt := 64) C.1 C.2.1 dX6_add_60 rfl ?_
      exact kX6_add_64  C a0 (gR q23 a0 0) (4 : Int32) (1 : Int32) _ _ _ _ ha0 hk25 hW (lv_sub hl [0] rfl) hf
  · have hf := (if_neg c12).symm.trans hf
    refine lv_iconst C.1 C.2.1 dX6_add_10 ic_m1 ?_
    cases hf
    exact m_iret C hW dX6_add_11

def fX6_isKnown (a0 : Nat) (a1 : Int32) (S : MS) : Option Int32 := (if (24 : Int32) ≤ a1 then some (0 : Int32) else (if bnd a1 (lnX (gR S a0 1)) = true then (if gI S (gR S a0 1) a1.toNatClampNeg = (0 : Int32) then (fX7_get  (gR S a0 0) a1 (1 : Int32) S).bind fun q6 => (if q6 = (2 : Int32) then some (0 : Int32) else some (1 : Int32)) else some (0 : Int32)) else none))
set_option maxRecDepth 100000 in
theorem cX6_isKnown_ok {l : Launch} {G : Gv} {L : List Nat} {S : MS} {a0 : Nat} {a1 : Int32} {q : Int32} (ha0 : a0 < shX.1 ∧ shX.2.1 a0 = 6) (hf : fX6_isKnown a0 a1 S = some q) : Mt l yX6_isKnown cX6_isKnown 2 (some .boolean) (2) G shX L S [.ref (ad L a0), .int a1] (some (.int q)) S := by
  refine m_enter (lv := [(0, .ref (ad L a0)), (1, .int a1)]) (plainFor_of_name (by decide)) (Nat.le_of_ble_eq_true rfl) rfl ?_
  intro p e s m below meth c A ls C hW hl
  unfold fX6_isKnown at hf
  refine lv_iload_n C.1 C.2.1 dX6_isKnown_0 rfl (lv_at hl 1 rfl) ?_
  refine lv_bipush C.1 C.2.1 dX6_isKnown_1 bp_24 ?_
  refine lv_icmp_ge (tgt := 32) C.1 C.2.1 dX6_isKnown_3 rfl (fun c1 => ?_) (fun c1 => ?_)
  · have hf := (if_pos c1).symm.trans hf
    refine lv_iconst C.1 C.2.1 dX6_isKnown_32 ic_0 ?_
    cases hf
    exact m_zret C hW rfl dX6_isKnown_33
  · have hf := (if_neg c1).symm.trans hf
    refine lv_aload_n C.1 C.2.1 dX6_isKnown_6 rfl (lv_at hl 0 rfl) ?_
    refine m_getr C hW ha0 flX6_20 (by decide) dX6_isKnown_7 (fun hk2 => ?_)
    refine lv_iload_n C.1 C.2.1 dX6_isKnown_10 rfl (lv_at hl 1 rfl) ?_
    obtain ⟨hb3, hf⟩ := gd hf
    refine m_zald C hW hk2 hb3 dX6_isKnown_11 ?_
    refine lv_if_ne (tgt := 32) C.1 C.2.1 dX6_isKnown_12 rfl (fun c4 => ?_) (fun c4 => ?_)
    · have hf := (if_neg c4).symm.trans hf
      refine lv_iconst C.1 C.2.1 dX6_isKnown_32 ic_0 ?_
      cases hf
      exact m_zret C hW rfl dX6_isKnown_33
    · have hf := (if_pos c4).symm.trans hf
      refine lv_aload_n C.1 C.2.1 dX6_isKnown_15 rfl (lv_at hl 0 rfl) ?_
      refine m_getr C hW ha0 flX6_14 (by decide) dX6_isKnown_16 (fun hk5 => ?_)
      refine lv_iload_n C.1 C.2.1 dX6_isKnown_19 rfl (lv_at hl 1 rfl) ?_
      refine lv_iconst C.1 C.2.1 dX6_isKnown_20 ic_1 ?_
      obtain ⟨q6, h7, hf⟩ := bd hf
      refine m_callV (As := [.int a1, .int (1 : Int32)]) (rest := []) C hW hk5 (cX7_get_ok  hk5 h7) mlX6_62 (by decide) rfl hl.1 rfl (Nat.le_of_ble_eq_true rfl) (Nat.le_of_ble_eq_true rfl) (Nat.le_of_ble_eq_true rfl) dX6_isKnown_21 (fun H locs hW => ?_)
      refine lv_iconst C.1 C.2.1 dX6_isKnown_24 ic_2 ?_
      refine lv_icmp_eq (tgt := 32) C.1 C.2.1 dX6_isKnown_25 rfl (fun c8 => ?_) (fun c8 => ?_)
      · have hf := (if_pos c8).symm.trans hf
        refine lv_iconst C.1 C.2.1 dX6_isKnown_32 ic_0 ?_
        cases hf
        exact m_zret C hW rfl dX6_isKnown_33
      · have hf := (if_neg c8).symm.trans hf
        refine lv_iconst C.1 C.2.1 dX6_isKnown_28 ic_1 ?_
        refine lv_goto (tgt := 33) C.1 C.2.1 dX6_isKnown_29 rfl ?_
        cases hf
        exact m_zret C hW rfl dX6_isKnown_33

def fX8_settleSuns_59 (K2 : Nat → Int32 → MS → Option MS) (K16 : Nat → Int32 → Int32 → Int32 → Int32 → MS → Option MS) (x0 : Nat) (x1 : Int32) (x2 : Int32) (x3 : Int32) (x4 : Int32) (S : MS) : Option MS := K16 x0 x1 x2 x3 (x4 + (1 : Int32)) S
def fX8_settleSuns_16 (K2 : Nat → Int32 → MS → Option MS) : Nat → Nat → Int32 → Int32 → Int32 → Int32 → MS → Option MS
  | 0, _, _, _, _, _, _ => none
  | n + 1, x0, x1, x2, x3, x4, S => (fX7_size  (gR S x0 2) S).bind fun q2 => (if q2 ≤ x4 then (if bnd x1 (lnX (gR S x0 1)) = true then K2 x0 (x1 + (1 : Int32)) (pI S (gR S x0 1) x1.toNatClampNeg x2) else none) else (fX7_get  (gR S x0 2) x4 (0 : Int32) S).bind fun q8 => (fJ9_floorMod_7cf53  (x1 - q8) (24 : Int32) S).bind fun q10 => (if x3 ≤ q10 then fX8_settleSuns_59 K2 (fX8_settleSuns_16 K2 n) x0 x1 x2 x3 x4 S else fX8_settleSuns_59 K2 (fX8_settleSuns_16 K2 n) x0 x1 x4 q10 x4 S))
def fX8_settleSuns_2  : Nat → Nat → Int32 → MS → Option MS
  | 0, _, _, _ => none
  | n + 1, x0, x1, S => (if (24 : Int32) ≤ x1 then some S else fX8_settleSuns_16 (fX8_settleSuns_2  n) 1000 x0 x1 (-1 : Int32) (24 : Int32) (0 : Int32) S)
def fX8_settleSuns (a0 : Nat) (S : MS) : Option MS := fX8_settleSuns_2  1000 a0 (0 : Int32) S
set_option maxRecDepth 100000 in
theorem kX8_settleSuns_59 {p : Program} {l : Launch} {e : Env} {s : State} {m : MethodId} {av : Array Value} {below : List Frame} {meth : Method} {c : Code} {A : Nat → Prop} {G : Gv} {L : List Nat} {q : MS} {K2 : Nat → Int32 → MS → Option MS} {K16 : Nat → Int32 → Int32 → Int32 → Int32 → MS → Option MS} (hK2 : ∀ (x0 : Nat) (x1 : Int32) (S : MS) (H : Heap) (locs : List Loc) (ls : Array Slot), (x0 < shX.1 ∧ shX.2.1 x0 = 8) → mW G shX L S A s H locs → lv_has ls 6 [(0, .ref (ad L x0)), (1, .int x1)] → K2 x0 x1 S = some q → W p l e (rmd (2)) s m av below meth c H locs 0 0 (MQ below (mQ G shX L q none A) av s 0 0 A) (F0 m 2 ls [])) (hK16 : ∀ (x0 : Nat) (x1 : Int32) (x2 : Int32) (x3 : Int32) (x4 : Int32) (S : MS) (H : Heap) (locs : List Loc) (ls : Array Slot), (x0 < shX.1 ∧ shX.2.1 x0 = 8) → mW G shX L S A s H locs → lv_has ls 6 [(0, .ref (ad L x0)), (1, .int x1), (2, .int x2), (3, .int x3), (4, .int x4)] → K16 x0 x1 x2 x3 x4 S = some q → W p l e (rmd (2)) s m av below meth c H locs 0 0 (MQ below (mQ G shX L q none A) av s 0 0 A) (F0 m 16 ls [])) (C : mC p s m av meth c cX8_settleSuns RX8 6 none) : ∀ (x0 : Nat) (x1 : Int32) (x2 : Int32) (x3 : Int32) (x4 : Int32) (S : MS) (H : Heap) (locs : List Loc) (ls : Array Slot), (x0 < shX.1 ∧ shX.2.1 x0 = 8) → mW G shX L S A s H locs → lv_has ls 6 [(0, .ref (ad L x0)), (1, .int x1), (2, .int x2), (3, .int x3), (4, .int x4)] → fX8_settleSuns_59 K2 K16 x0 x1 x2 x3 x4 S = some q → W p l e (rmd (2)) s m av below meth c H locs 0 0 (MQ below (mQ G shX L q none A) av s 0 0 A) (F0 m 59 ls []) := by
  intro x0 x1 x2 x3 x4 S H locs ls hx0 hW hl hf
  unfold fX8_settleSuns_59 at hf
  refine lv_iinc (v := x4 + (1 : Int32)) (lv' := [(4, .int (x4 + (1 : Int32))), (0, .ref (ad L x0)), (1, .int x1), (2, .int x2), (3, .int x3)]) C.1 C.2.1 dX8_settleSuns_59 hl (k := 4) rfl (congrArg (fun z => x4 + z) ic_1) (by decide) rfl (fun ls hl => ?_)
  refine lv_goto (tgt := 16) C.1 C.2.1 dX8_settleSuns_62 rfl ?_
  exact hK16 x0 x1 x2 x3 (x4 + (1 : Int32)) _ _ _ _ hx0 hW (lv_sub hl [1, 2, 3, 4, 0] rfl) hf

set_option maxRecDepth 100000 in
theorem kX8_settleSuns_16 {p : Program} {l : Launch} {e : Env} {s : State} {m : MethodId} {av : Array Value} {below : List Frame} {meth : Method} {c : Code} {A : Nat → Prop} {G : Gv} {L : List Nat} {q : MS} {K2 : Nat → Int32 → MS → Option MS} (hK2 : ∀ (x0 : Nat) (x1 : Int32) (S : MS) (H : Heap) (locs : List Loc) (ls : Array Slot), (x0 < shX.1 ∧ shX.2.1 x0 = 8) → mW G shX L S A s H locs → lv_has ls 6 [(0, .ref (ad L x0)), (1, .int x1)] → K2 x0 x1 S = some q → W p l e (rmd (2)) s m av below meth c H locs 0 0 (MQ below (mQ G shX L q none A) av s 0 0 A) (F0 m 2 ls [])) (C : mC p s m av meth c cX8_settleSuns RX8 6 none) : ∀ (n : Nat) (x0 : Nat) (x1 : Int32) (x2 : Int32) (x3 : Int32) (x4 : Int32) (S : MS) (H : Heap) (locs : List Loc) (ls : Array Slot), (x0 < shX.1 ∧ shX.2.1 x0 = 8) → mW G shX L S A s H locs → lv_has ls 6 [(0, .ref (ad L x0)), (1, .int x1), (2, .int x2), (3, .int x3), (4, .int x4)] → fX8_settleSuns_16 K2 n x0 x1 x2 x3 x4 S = some q → W p l e (rmd (2)) s m av below meth c H locs 0 0 (MQ below (mQ G shX L q none A) av s 0 0 A) (F0 m 16 ls []) := by
  intro n
  induction n with
  | zero =>
    intro x0 x1 x2 x3 x4 S H locs ls hx0 hW hl hf
    rw [fX8_settleSuns_16] at hf
    cases hf
  | succ n ih =>
    intro x0 x1 x2 x3 x4 S H locs ls hx0 hW hl hf
    rw [fX8_settleSuns_16] at hf
    refine lv_iload C.1 C.2.1 dX8_settleSuns_16 (lv_at hl 4 rfl) ?_
    refine lv_aload_n C.1 C.2.1 dX8_settleSuns_18 rfl (lv_at hl 0 rfl) ?_
    refine m_getr C hW hx0 flX8_24 (by decide) dX8_settleSuns_19 (fun hk1 => ?_)
    obtain ⟨q2, h3, hf⟩ := bd hf
    refine m_callV (As := []) (rest := [.int x4]) C hW hk1 (cX7_size_ok  hk1 h3) mlX8_76 (by decide) rfl hl.1 rfl (Nat.le_of_ble_eq_true rfl) (Nat.le_of_ble_eq_true rfl) (Nat.le_of_ble_eq_true rfl) dX8_settleSuns_22 (fun H locs hW => ?_)
    refine lv_icmp_ge (tgt := 65) C.1 C.2.1 dX8_settleSuns_25 rfl (fun c4 => ?_) (fun c4 => ?_)
    · have hf := (if_pos c4).symm.trans hf
      refine lv_aload_n C.1 C.2.1 dX8_settleSuns_65 rfl (lv_at hl 0 rfl) ?_
      refine m_getr C hW hx0 flX8_15 (by decide) dX8_settleSuns_66 (fun hk5 => ?_)
      refine lv_iload_n C.1 C.2.1 dX8_settleSuns_69 rfl (lv_at hl 1 rfl) ?_
      refine lv_iload_n C.1 C.2.1 dX8_settleSuns_70 rfl (lv_at hl 2 rfl) ?_
      obtain ⟨hb6, hf⟩ := gd hf
      refine m_iast C hW hk5 hb6 dX8_settleSuns_71 (fun H locs hW => ?_)
      refine lv_iinc (v := x1 + (1 : Int32)) (lv' := [(1, .int (x1 + (1 : Int32))), (0, .ref (ad L x0)), (2, .int x2), (3, .int x3), (4, .int x4)]) C.1 C.2.1 dX8_settleSuns_72 hl (k := 1) rfl (congrArg (fun z => x1 + z) ic_1) (by decide) rfl (fun ls hl => ?_)
      refine lv_goto (tgt := 2) C.1 C.2.1 dX8_settleSuns_75 rfl ?_
      exact hK2 x0 (x1 + (1 : Int32)) _ _ _ _ hx0 hW (lv_sub hl [1, 0] rfl) hf
    · have hf := (if_neg c4).symm.trans hf
      refine lv_iload_n C.1 C.2.1 dX8_settleSuns_28 rfl (lv_at hl 1 rfl) ?_
      refine lv_aload_n C.1 C.2.1 dX8_settleSuns_29 rfl (lv_at hl 0 rfl) ?_
      refine m_getr C hW hx0 flX8_24 (by decide) dX8_settleSuns_30 (fun hk7 => ?_)
      refine lv_iload C.1 C.2.1 dX8_settleSuns_33 (lv_at hl 4 rfl) ?_
      refine lv_iconst C.1 C.2.1 dX8_settleSuns_35 ic_0 ?_
      obtain ⟨q8, h9, hf⟩ := bd hf
      refine m_callV (As := [.int x4, .int (0 : Int32)]) (rest := [.int x1]) C hW hk7 (cX7_get_ok  hk7 h9) mlX8_80 (by decide) rfl hl.1 rfl (Nat.le_of_ble_eq_true rfl) (Nat.le_of_ble_eq_true rfl) (Nat.le_of_ble_eq_true rfl) dX8_settleSuns_36 (fun H locs hW => ?_)
      refine lv_isub C.1 C.2.1 dX8_settleSuns_39 ?_
      refine lv_bipush C.1 C.2.1 dX8_settleSuns_40 bp_24 ?_
      obtain ⟨q10, h11, hf⟩ := bd hf
      refine m_callS (As := [.int (x1 - q8), .int (24 : Int32)]) (rest := []) C hW (cJ9_floorMod_7cf53_ok   h11) mlX8_84 rfl hl.1 rfl (Nat.le_of_ble_eq_true rfl) (Nat.le_of_ble_eq_true rfl) (Nat.le_of_ble_eq_true rfl) dX8_settleSuns_42 (fun H locs hW => ?_)
      refine lv_istore (lv' := [(5, .int q10), (0, .ref (ad L x0)), (1, .int x1), (2, .int x2), (3, .int x3), (4, .int x4)]) C.1 C.2.1 dX8_settleSuns_45 hl (by decide) rfl (fun ls hl => ?_)
      refine lv_iload C.1 C.2.1 dX8_settleSuns_47 (lv_at hl 0 rfl) ?_
      refine lv_iload_n C.1 C.2.1 dX8_settleSuns_49 rfl (lv_at hl 4 rfl) ?_
      refine lv_icmp_ge (tgt := 59) C.1 C.2.1 dX8_settleSuns_50 rfl (fun c12 => ?_) (fun c12 => ?_)
      · have hf := (if_pos c12).symm.trans hf
        exact kX8_settleSuns_59 hK2 ih C x0 x1 x2 x3 x4 _ _ _ _ hx0 hW (lv_sub hl [1, 2, 3, 4, 5] rfl) hf
      · have hf := (if_neg c12).symm.trans hf
        refine lv_iload C.1 C.2.1 dX8_settleSuns_53 (lv_at hl 0 rfl) ?_
        refine lv_istore_n (lv' := [(3, .int q10), (5, .int q10), (0, .ref (ad L x0)), (1, .int x1), (2, .int x2), (4, .int x4)]) C.1 C.2.1 dX8_settleSuns_55 rfl hl (by decide) rfl (fun ls hl => ?_)
        refine lv_iload C.1 C.2.1 dX8_settleSuns_56 (lv_at hl 5 rfl) ?_
        refine lv_istore_n (lv' := [(2, .int x4), (3, .int q10), (5, .int q10), (0, .ref (ad L x0)), (1, .int x1), (4, .int x4)]) C.1 C.2.1 dX8_settleSuns_58 rfl hl (by decide) rfl (fun ls hl => ?_)
        exact kX8_settleSuns_59 hK2 ih C x0 x1 x4 q10 x4 _ _ _ _ hx0 hW (lv_sub hl [3, 4, 0, 1, 5] rfl) hf

set_option maxRecDepth 100000 in
theorem kX8_settleSuns_2 {p : Program} {l : Launch} {e : Env} {s : State} {m : MethodId} {av : Array Value} {below : List Frame} {meth : Method} {c : Code} {A : Nat → Prop} {G : Gv} {L : List Nat} {q : MS}  (C : mC p s m av meth c cX8_settleSuns RX8 6 none) : ∀ (n : Nat) (x0 : Nat) (x1 : Int32) (S : MS) (H : Heap) (locs : List Loc) (ls : Array Slot), (x0 < shX.1 ∧ shX.2.1 x0 = 8) → mW G shX L S A s H locs → lv_has ls 6 [(0, .ref (ad L x0)), (1, .int x1)] → fX8_settleSuns_2  n x0 x1 S = some q → W p l e (rmd (2)) s m av below meth c H locs 0 0 (MQ below (mQ G shX L q none A) av s 0 0 A) (F0 m 2 ls []) := by
  intro n
  induction n with
  | zero =>
    intro x0 x1 S H locs ls hx0 hW hl hf
    rw [fX8_settleSuns_2] at hf
    cases hf
  | succ n ih =>
    intro x0 x1 S H locs ls hx0 hW hl hf
    rw [fX8_settleSuns_2] at hf
    refine lv_iload_n C.1 C.2.1 dX8_settleSuns_2 rfl (lv_at hl 1 rfl) ?_
    refine lv_bipush C.1 C.2.1 dX8_settleSuns_3 bp_24 ?_
    refine lv_icmp_ge (tgt := 78) C.1 C.2.1 dX8_settleSuns_5 rfl (fun c13 => ?_) (fun c13 => ?_)
    · have hf := (if_pos c13).symm.trans hf
      cases hf
      exact m_vret C hW dX8_settleSuns_78
    · have hf := (if_neg c13).symm.trans hf
      refine lv_iconst C.1 C.2.1 dX8_settleSuns_8 ic_m1 ?_
      refine lv_istore_n (lv' := [(2, .int (-1 : Int32)), (0, .ref (ad L x0)), (1, .int x1)]) C.1 C.2.1 dX8_settleSuns_9 rfl hl (by decide) rfl (fun ls hl => ?_)
      refine lv_bipush C.1 C.2.1 dX8_settleSuns_10 bp_24 ?_
      refine lv_istore_n (lv' := [(3, .int (24 : Int32)), (2, .int (-1 : Int32)), (0, .ref (ad L x0)), (1, .int x1)]) C.1 C.2.1 dX8_settleSuns_12 rfl hl (by decide) rfl (fun ls hl => ?_)
      refine lv_iconst C.1 C.2.1 dX8_settleSuns_13 ic_0 ?_
      refine lv_istore (lv' := [(4, .int (0 : Int32)), (3, .int (24 : Int32)), (2, .int (-1 : Int32)), (0, .ref (ad L x0)), (1, .int x1)]) C.1 C.2.1 dX8_settleSuns_14 hl (by decide) rfl (fun ls hl => ?_)
      exact kX8_settleSuns_16 ih C 1000 x0 x1 (-1 : Int32) (24 : Int32) (0 : Int32) _ _ _ _ hx0 hW (lv_sub hl [3, 4, 2, 1, 0] rfl) hf

set_option maxRecDepth 100000 in
theorem cX8_settleSuns_ok {l : Launch} {G : Gv} {L : List Nat} {S : MS} {a0 : Nat} {q : MS} (ha0 : a0 < shX.1 ∧ shX.2.1 a0 = 8) (hf : fX8_settleSuns a0 S = some q) : Mt l yX8_settleSuns cX8_settleSuns 6 none (2) G shX L S [.ref (ad L a0)] none q := by
  refine m_enter (lv := [(0, .ref (ad L a0))]) (plainFor_of_name (by decide)) (Nat.le_of_ble_eq_true rfl) rfl ?_
  intro p e s m below meth c A ls C hW hl
  unfold fX8_settleSuns at hf
  refine lv_iconst C.1 C.2.1 dX8_settleSuns_0 ic_0 ?_
  refine lv_istore_n (lv' := [(1, .int (0 : Int32)), (0, .ref (ad L a0))]) C.1 C.2.1 dX8_settleSuns_1 rfl hl (by decide) rfl (fun ls hl => ?_)
  exact kX8_settleSuns_2  C 1000 a0 (0 : Int32) _ _ _ _ ha0 hW (lv_sub hl [1, 0] rfl) hf

def fX8_sunOf (a0 : Nat) (a1 : Int32) (S : MS) : Option Int32 := (fJ9_floorMod_7cf53  a1 (24 : Int32) S).bind fun q2 => (if bnd q2 (lnX (gR S a0 1)) = true then some (gI S (gR S a0 1) q2.toNatClampNeg) else none)
set_option maxRecDepth 100000 in
theorem cX8_sunOf_ok {l : Launch} {G : Gv} {L : List Nat} {S : MS} {a0 : Nat} {a1 : Int32} {q : Int32} (ha0 : a0 < shX.1 ∧ shX.2.1 a0 = 8) (hf : fX8_sunOf a0 a1 S = some q) : Mt l yX8_sunOf cX8_sunOf 2 (some .int) (2) G shX L S [.ref (ad L a0), .int a1] (some (.int q)) S := by
  refine m_enter (lv := [(0, .ref (ad L a0)), (1, .int a1)]) (plainFor_of_name (by decide)) (Nat.le_of_ble_eq_true rfl) rfl ?_
  intro p e s m below meth c A ls C hW hl
  unfold fX8_sunOf at hf
  refine lv_aload_n C.1 C.2.1 dX8_sunOf_0 rfl (lv_at hl 0 rfl) ?_
  refine m_getr C hW ha0 flX8_15 (by decide) dX8_sunOf_1 (fun hk1 => ?_)
  refine lv_iload_n C.1 C.2.1 dX8_sunOf_4 rfl (lv_at hl 1 rfl) ?_
  refine lv_bipush C.1 C.2.1 dX8_sunOf_5 bp_24 ?_
  obtain ⟨q2, h3, hf⟩ := bd hf
  refine m_callS (As := [.int a1, .int (24 : Int32)]) (rest := [.ref (ad L (gR S a0 1))]) C hW (cJ9_floorMod_7cf53_ok   h3) mlX8_84 rfl hl.1 rfl (Nat.le_of_ble_eq_true rfl) (Nat.le_of_ble_eq_true rfl) (Nat.le_of_ble_eq_true rfl) dX8_sunOf_7 (fun H locs hW => ?_)
  obtain ⟨hb4, hf⟩ := gd hf
  refine m_iald C hW hk1 hb4 dX8_sunOf_10 ?_
  cases hf
  exact m_iret C hW dX8_sunOf_11

def fX10_feed (a0 : Nat) (a1 : Int32) (a2 : Int32) (a3 : Int32) (a4 : Int32) (a5 : Int32) (S : MS) : Option (Int32 × MS) := (if ((gI S a0 12) + (20 : Int32)) ≤ (700 : Int32) then (fX10_putBytes  a0 a1 S).bind fun q2 => (fX10_putBytes  a0 a2 q2).bind fun q4 => (fX10_putBytes  a0 a3 q4).bind fun q6 => (fX10_putBytes  a0 a4 q6).bind fun q8 => (fX10_putBytes  a0 a5 q8).bind fun q10 => some (gI q10 a0 12, q10) else some ((-1 : Int32), S))
set_option maxRecDepth 100000 in
theorem cX10_feed_ok {l : Launch} {G : Gv} {L : List Nat} {S : MS} {a0 : Nat} {a1 : Int32} {a2 : Int32} {a3 : Int32} {a4 : Int32} {a5 : Int32} {q : (Int32 × MS)} (ha0 : a0 < shX.1 ∧ shX.2.1 a0 = 10) (hf : fX10_feed a0 a1 a2 a3 a4 a5 S = some q) : Mt l yX10_feed cX10_feed 6 (some .int) (2) G shX L S [.ref (ad L a0), .int a1, .int a2, .int a3, .int a4, .int a5] (some (.int q.1)) q.2 := by
  refine m_enter (lv := [(0, .ref (ad L a0)), (1, .int a1), (2, .int a2), (3, .int a3), (4, .int a4), (5, .int a5)]) (plainFor_of_name (by decide)) (Nat.le_of_ble_eq_true rfl) rfl ?_
  intro p e s m below meth c A ls C hW hl
  unfold fX10_feed at hf
  refine lv_aload_n C.1 C.2.1 dX10_feed_0 rfl (lv_at hl 0 rfl) ?_
  refine m_geti C hW ha0 flX10_92 dX10_feed_1 ?_
  refine lv_bipush C.1 C.2.1 dX10_feed_4 bp_20 ?_
  refine lv_iadd C.1 C.2.1 dX10_feed_6 ?_
  refine lv_sipush C.1 C.2.1 dX10_feed_7 sp_700 ?_
  refine lv_icmp_le (tgt := 15) C.1 C.2.1 dX10_feed_10 rfl (fun c1 => ?_) (fun c1 => ?_)
  · have hf := (if_pos c1).symm.trans hf
    refine lv_aload_n C.1 C.2.1 dX10_feed_15 rfl (lv_at hl 0 rfl) ?_
    refine lv_iload_n C.1 C.2.1 dX10_feed_16 rfl (lv_at hl 1 rfl) ?_
    obtain ⟨q2, h3, hf⟩ := bd hf
    refine m_callV (As := [.int a1]) (rest := []) C hW ha0 (cX10_putBytes_ok  ha0 h3) mlX10_95 (by decide) rfl hl.1 rfl (Nat.le_of_ble_eq_true rfl) (Nat.le_of_ble_eq_true rfl) (Nat.le_of_ble_eq_true rfl) dX10_feed_17 (fun H locs hW => ?_)
    refine lv_aload_n C.1 C.2.1 dX10_feed_20 rfl (lv_at hl 0 rfl) ?_
    refine lv_iload_n C.1 C.2.1 dX10_feed_21 rfl (lv_at hl 2 rfl) ?_
    obtain ⟨q4, h5, hf⟩ := bd hf
    refine m_callV (As := [.int a2]) (rest := []) C hW ha0 (cX10_putBytes_ok  ha0 h5) mlX10_95 (by decide) rfl hl.1 rfl (Nat.le_of_ble_eq_true rfl) (Nat.le_of_ble_eq_true rfl) (Nat.le_of_ble_eq_true rfl) dX10_feed_22 (fun H locs hW => ?_)
    refine lv_aload_n C.1 C.2.1 dX10_feed_25 rfl (lv_at hl 0 rfl) ?_
    refine lv_iload_n C.1 C.2.1 dX10_feed_26 rfl (lv_at hl 3 rfl) ?_
    obtain ⟨q6, h7, hf⟩ := bd hf
    refine m_callV (As := [.int a3]) (rest := []) C hW ha0 (cX10_putBytes_ok  ha0 h7) mlX10_95 (by decide) rfl hl.1 rfl (Nat.le_of_ble_eq_true rfl) (Nat.le_of_ble_eq_true rfl) (Nat.le_of_ble_eq_true rfl) dX10_feed_27 (fun H locs hW => ?_)
    refine lv_aload_n C.1 C.2.1 dX10_feed_30 rfl (lv_at hl 0 rfl) ?_
    refine lv_iload C.1 C.2.1 dX10_feed_31 (lv_at hl 4 rfl) ?_
    obtain ⟨q8, h9, hf⟩ := bd hf
    refine m_callV (As := [.int a4]) (rest := []) C hW ha0 (cX10_putBytes_ok  ha0 h9) mlX10_95 (by decide) rfl hl.1 rfl (Nat.le_of_ble_eq_true rfl) (Nat.le_of_ble_eq_true rfl) (Nat.le_of_ble_eq_true rfl) dX10_feed_33 (fun H locs hW => ?_)
    refine lv_aload_n C.1 C.2.1 dX10_feed_36 rfl (lv_at hl 0 rfl) ?_
    refine lv_iload C.1 C.2.1 dX10_feed_37 (lv_at hl 5 rfl) ?_
    obtain ⟨q10, h11, hf⟩ := bd hf
    refine m_callV (As := [.int a5]) (rest := []) C hW ha0 (cX10_putBytes_ok  ha0 h11) mlX10_95 (by decide) rfl hl.1 rfl (Nat.le_of_ble_eq_true rfl) (Nat.le_of_ble_eq_true rfl) (Nat.le_of_ble_eq_true rfl) dX10_feed_39 (fun H locs hW => ?_)
    refine lv_aload_n C.1 C.2.1 dX10_feed_42 rfl (lv_at hl 0 rfl) ?_
    refine m_geti C hW ha0 flX10_92 dX10_feed_43 ?_
    cases hf
    exact m_iret C hW dX10_feed_46
  · have hf := (if_neg c1).symm.trans hf
    refine lv_iconst C.1 C.2.1 dX10_feed_13 ic_m1 ?_
    cases hf
    exact m_iret C hW dX10_feed_14

def fX10_isRest (a0 : Nat) (a1 : Int32) (a2 : Int32) (a3 : Int32) (S : MS) : Option Int32 := (fX10_shareOf  a0 a1 a2 (a3 / (2 : Int32)) (a3 - (a3 / (2 : Int32)) * (2 : Int32)) S).bind fun q1 => (fX10_shareOf  a0 a1 a2 ((1 : Int32) - (a3 / (2 : Int32))) (a3 - (a3 / (2 : Int32)) * (2 : Int32)) S).bind fun q3 => (if q1 < q3 then some (0 : Int32) else (fX10_shareOf  a0 a2 a1 (a3 - (a3 / (2 : Int32)) * (2 : Int32)) (a3 / (2 : Int32)) S).bind fun q6 => (fX10_shareOf  a0 a2 a1 ((1 : Int32) - (a3 - (a3 / (2 : Int32)) * (2 : Int32))) (a3 / (2 : Int32)) S).bind fun q8 => (if q6 < q8 then some (0 : Int32) else some (1 : Int32)))
set_option maxRecDepth 100000 in
theorem cX10_isRest_ok {l : Launch} {G : Gv} {L : List Nat} {S : MS} {a0 : Nat} {a1 : Int32} {a2 : Int32} {a3 : Int32} {q : Int32} (ha0 : a0 < shX.1 ∧ shX.2.1 a0 = 10) (hf : fX10_isRest a0 a1 a2 a3 S = some q) : Mt l yX10_isRest cX10_isRest 6 (some .boolean) (2) G shX L S [.ref (ad L a0), .int a1, .int a2, .int a3] (some (.int q)) S := by
  refine m_enter (lv := [(0, .ref (ad L a0)), (1, .int a1), (2, .int a2), (3, .int a3)]) (plainFor_of_name (by decide)) (Nat.le_of_ble_eq_true rfl) rfl ?_
  intro p e s m below meth c A ls C hW hl
  unfold fX10_isRest at hf
  refine lv_iload_n C.1 C.2.1 dX10_isRest_0 rfl (lv_at hl 3 rfl) ?_
  refine lv_iconst C.1 C.2.1 dX10_isRest_1 ic_2 ?_
  refine lv_idiv C.1 C.2.1 dX10_isRest_2 (by decide) ?_
  refine lv_istore (lv' := [(4, .int (a3 / (2 : Int32))), (0, .ref (ad L a0)), (1, .int a1), (2, .int a2), (3, .int a3)]) C.1 C.2.1 dX10_isRest_3 hl (by decide) rfl (fun ls hl => ?_)
  refine lv_iload_n C.1 C.2.1 dX10_isRest_5 rfl (lv_at hl 4 rfl) ?_
  refine lv_iconst C.1 C.2.1 dX10_isRest_6 ic_2 ?_
  refine lv_irem C.1 C.2.1 dX10_isRest_7 (by decide) ?_
  refine lv_istore (lv' := [(5, .int (a3 - (a3 / (2 : Int32)) * (2 : Int32))), (4, .int (a3 / (2 : Int32))), (0, .ref (ad L a0)), (1, .int a1), (2, .int a2), (3, .int a3)]) C.1 C.2.1 dX10_isRest_8 hl (by decide) rfl (fun ls hl => ?_)
  refine lv_aload_n C.1 C.2.1 dX10_isRest_10 rfl (lv_at hl 2 rfl) ?_
  refine lv_iload_n C.1 C.2.1 dX10_isRest_11 rfl (lv_at hl 3 rfl) ?_
  refine lv_iload_n C.1 C.2.1 dX10_isRest_12 rfl (lv_at hl 4 rfl) ?_
  refine lv_iload C.1 C.2.1 dX10_isRest_13 (lv_at hl 1 rfl) ?_
  refine lv_iload C.1 C.2.1 dX10_isRest_15 (lv_at hl 0 rfl) ?_
  obtain ⟨q1, h2, hf⟩ := bd hf
  refine m_callV (As := [.int a1, .int a2, .int (a3 / (2 : Int32)), .int (a3 - (a3 / (2 : Int32)) * (2 : Int32))]) (rest := []) C hW ha0 (cX10_shareOf_ok  ha0 h2) mlX10_322 (by decide) rfl hl.1 rfl (Nat.le_of_ble_eq_true rfl) (Nat.le_of_ble_eq_true rfl) (Nat.le_of_ble_eq_true rfl) dX10_isRest_17 (fun H locs hW => ?_)
  refine lv_aload_n C.1 C.2.1 dX10_isRest_20 rfl (lv_at hl 2 rfl) ?_
  refine lv_iload_n C.1 C.2.1 dX10_isRest_21 rfl (lv_at hl 3 rfl) ?_
  refine lv_iload_n C.1 C.2.1 dX10_isRest_22 rfl (lv_at hl 4 rfl) ?_
  refine lv_iconst C.1 C.2.1 dX10_isRest_23 ic_1 ?_
  refine lv_iload C.1 C.2.1 dX10_isRest_24 (lv_at hl 1 rfl) ?_
  refine lv_isub C.1 C.2.1 dX10_isRest_26 ?_
  refine lv_iload C.1 C.2.1 dX10_isRest_27 (lv_at hl 0 rfl) ?_
  obtain ⟨q3, h4, hf⟩ := bd hf
  refine m_callV (As := [.int a1, .int a2, .int ((1 : Int32) - (a3 / (2 : Int32))), .int (a3 - (a3 / (2 : Int32)) * (2 : Int32))]) (rest := [.int q1]) C hW ha0 (cX10_shareOf_ok  ha0 h4) mlX10_322 (by decide) rfl hl.1 rfl (Nat.le_of_ble_eq_true rfl) (Nat.le_of_ble_eq_true rfl) (Nat.le_of_ble_eq_true rfl) dX10_isRest_29 (fun H locs hW => ?_)
  refine lv_icmp_lt (tgt := 64) C.1 C.2.1 dX10_isRest_32 rfl (fun c5 => ?_) (fun c5 => ?_)
  · have hf := (if_pos c5).symm.trans hf
    refine lv_iconst C.1 C.2.1 dX10_isRest_64 ic_0 ?_
    cases hf
    exact m_zret C hW rfl dX10_isRest_65
  · have hf := (if_neg c5).symm.trans hf
    refine lv_aload_n C.1 C.2.1 dX10_isRest_35 rfl (lv_at hl 2 rfl) ?_
    refine lv_iload_n C.1 C.2.1 dX10_isRest_36 rfl (lv_at hl 4 rfl) ?_
    refine lv_iload_n C.1 C.2.1 dX10_isRest_37 rfl (lv_at hl 3 rfl) ?_
    refine lv_iload C.1 C.2.1 dX10_isRest_38 (lv_at hl 0 rfl) ?_
    refine lv_iload C.1 C.2.1 dX10_isRest_40 (lv_at hl 1 rfl) ?_
    obtain ⟨q6, h7, hf⟩ := bd hf
    refine m_callV (As := [.int a2, .int a1, .int (a3 - (a3 / (2 : Int32)) * (2 : Int32)), .int (a3 / (2 : Int32))]) (rest := []) C hW ha0 (cX10_shareOf_ok  ha0 h7) mlX10_322 (by decide) rfl hl.1 rfl (Nat.le_of_ble_eq_true rfl) (Nat.le_of_ble_eq_true rfl) (Nat.le_of_ble_eq_true rfl) dX10_isRest_42 (fun H locs hW => ?_)
    refine lv_aload_n C.1 C.2.1 dX10_isRest_45 rfl (lv_at hl 2 rfl) ?_
    refine lv_iload_n C.1 C.2.1 dX10_isRest_46 rfl (lv_at hl 4 rfl) ?_
    refine lv_iload_n C.1 C.2.1 dX10_isRest_47 rfl (lv_at hl 3 rfl) ?_
    refine lv_iconst C.1 C.2.1 dX10_isRest_48 ic_1 ?_
    refine lv_iload C.1 C.2.1 dX10_isRest_49 (lv_at hl 0 rfl) ?_
    refine lv_isub C.1 C.2.1 dX10_isRest_51 ?_
    refine lv_iload C.1 C.2.1 dX10_isRest_52 (lv_at hl 1 rfl) ?_
    obtain ⟨q8, h9, hf⟩ := bd hf
    refine m_callV (As := [.int a2, .int a1, .int ((1 : Int32) - (a3 - (a3 / (2 : Int32)) * (2 : Int32))), .int (a3 / (2 : Int32))]) (rest := [.int q6]) C hW ha0 (cX10_shareOf_ok  ha0 h9) mlX10_322 (by decide) rfl hl.1 rfl (Nat.le_of_ble_eq_true rfl) (Nat.le_of_ble_eq_true rfl) (Nat.le_of_ble_eq_true rfl) dX10_isRest_54 (fun H locs hW => ?_)
    refine lv_icmp_lt (tgt := 64) C.1 C.2.1 dX10_isRest_57 rfl (fun c10 => ?_) (fun c10 => ?_)
    · have hf := (if_pos c10).symm.trans hf
      refine lv_iconst C.1 C.2.1 dX10_isRest_64 ic_0 ?_
      cases hf
      exact m_zret C hW rfl dX10_isRest_65
    · have hf := (if_neg c10).symm.trans hf
      refine lv_iconst C.1 C.2.1 dX10_isRest_60 ic_1 ?_
      refine lv_goto (tgt := 65) C.1 C.2.1 dX10_isRest_61 rfl ?_
      cases hf
      exact m_zret C hW rfl dX10_isRest_65

def fX10_clear_69  : Nat → Int32 → Int64 → Int64 → Int32 → MS → Option Int64
  | 0, _, _, _, _, _ => none
  | n + 1, x1, x4, x6, x8, S => (if x1 ≤ x8 then some x6 else (fX10_clear_69  n) x1 x4 (x6 * x4) (x8 + (1 : Int32)) S)
def fX10_clear_58  (x1 : Int32) (x3 : Int32) (y0 : Int32) (S : MS) : Option Int64 := (if x3 = (0 : Int32) then none else fX10_clear_69  1000 x1 ((y0 / x3).toInt64) (1 : Int64) (0 : Int32) S)
def fX10_clear (a0 : Nat) (a1 : Int32) (a2 : Int32) (S : MS) : Option Int64 := (if a1 < (0 : Int32) then some (-1 : Int64) else (if (6 : Int32) < a1 then some (-1 : Int64) else (if a2 < (0 : Int32) then some (-1 : Int64) else (if a2 ≤ (1 : Int32) then (fX10_commonDivisor  (100 : Int32) ((100 : Int32) - (gI S (gR S a0 1) 13)) S).bind fun q8 => (if a2 = (0 : Int32) then fX10_clear_58  a1 q8 ((100 : Int32) - (gI S (gR S a0 1) 13)) S else fX10_clear_58  a1 q8 (100 : Int32) S) else some (-1 : Int64)))))
set_option maxRecDepth 100000 in
theorem kX10_clear_69 {p : Program} {l : Launch} {e : Env} {s : State} {m : MethodId} {av : Array Value} {below : List Frame} {meth : Method} {c : Code} {A : Nat → Prop} {G : Gv} {L : List Nat} {S : MS} {q : Int64}  (C : mC p s m av meth c cX10_clear RX10 9 (some .long)) : ∀ (n : Nat) (x1 : Int32) (x4 : Int64) (x6 : Int64) (x8 : Int32) (H : Heap) (locs : List Loc) (ls : Array Slot), mW G shX L S A s H locs → lv_has ls 9 [(1, .int x1), (4, .long x4), (6, .long x6), (8, .int x8)] → fX10_clear_69  n x1 x4 x6 x8 S = some q → W p l e (rmd (2)) s m av below meth c H locs 0 0 (MQ below (mQ G shX L S (some (.long q)) A) av s 0 0 A) (F0 m 69 ls []) := by
  intro n
  induction n with
  | zero =>
    intro x1 x4 x6 x8 H locs ls  hW hl hf
    rw [fX10_clear_69] at hf
    cases hf
  | succ n ih =>
    intro x1 x4 x6 x8 H locs ls  hW hl hf
    rw [fX10_clear_69] at hf
    refine lv_iload C.1 C.2.1 dX10_clear_69 (lv_at hl 3 rfl) ?_
    refine lv_iload_n C.1 C.2.1 dX10_clear_71 rfl (lv_at hl 0 rfl) ?_
    refine lv_icmp_ge (tgt := 88) C.1 C.2.1 dX10_clear_72 rfl (fun c1 => ?_) (fun c1 => ?_)
    · have hf := (if_pos c1).symm.trans hf
      refine lv_lload C.1 C.2.1 dX10_clear_88 (lv_at hl 2 rfl) ?_
      cases hf
      exact m_lret C hW dX10_clear_90
    · have hf := (if_neg c1).symm.trans hf
      refine lv_lload C.1 C.2.1 dX10_clear_75 (lv_at hl 2 rfl) ?_
      refine lv_lload C.1 C.2.1 dX10_clear_77 (lv_at hl 1 rfl) ?_
      refine lv_lmul C.1 C.2.1 dX10_clear_79 ?_
      refine lv_lstore (lv' := [(6, .long (x6 * x4)), (1, .int x1), (4, .long x4), (8, .int x8)]) C.1 C.2.1 dX10_clear_80 hl (by decide) rfl (fun ls hl => ?_)
      refine lv_iinc (v := x8 + (1 : Int32)) (lv' := [(8, .int (x8 + (1 : Int32))), (6, .long (x6 * x4)), (1, .int x1), (4, .long x4)]) C.1 C.2.1 dX10_clear_82 hl (k := 3) rfl (congrArg (fun z => x8 + z) ic_1) (by decide) rfl (fun ls hl => ?_)
      refine lv_goto (tgt := 69) C.1 C.2.1 dX10_clear_85 rfl ?_
      exact ih x1 x4 (x6 * x4) (x8 + (1 : Int32)) _ _ _  hW (lv_sub hl [2, 3, 1, 0] rfl) hf

set_option maxRecDepth 100000 in
theorem kX10_clear_58 {p : Program} {l : Launch} {e : Env} {s : State} {m : MethodId} {av : Array Value} {below : List Frame} {meth : Method} {c : Code} {A : Nat → Prop} {G : Gv} {L : List Nat} {S : MS} {q : Int64}  (C : mC p s m av meth c cX10_clear RX10 9 (some .long)) : ∀ (x1 : Int32) (x3 : Int32) (y0 : Int32) (H : Heap) (locs : List Loc) (ls : Array Slot), mW G shX L S A s H locs → lv_has ls 9 [(1, .int x1), (3, .int x3)] → fX10_clear_58  x1 x3 y0 S = some q → W p l e (rmd (2)) s m av below meth c H locs 0 0 (MQ below (mQ G shX L S (some (.long q)) A) av s 0 0 A) (F0 m 58 ls [.int y0]) := by
  intro x1 x3 y0 H locs ls  hW hl hf
  unfold fX10_clear_58 at hf
  refine lv_iload_n C.1 C.2.1 dX10_clear_58 rfl (lv_at hl 1 rfl) ?_
  obtain ⟨hz2, hf⟩ := nz hf
  refine lv_idiv C.1 C.2.1 dX10_clear_59 hz2 ?_
  refine lv_i2l C.1 C.2.1 dX10_clear_60 rfl ?_
  refine lv_lstore (lv' := [(4, .long ((y0 / x3).toInt64)), (1, .int x1), (3, .int x3)]) C.1 C.2.1 dX10_clear_61 hl (by decide) rfl (fun ls hl => ?_)
  refine lv_lconst C.1 C.2.1 dX10_clear_63 lc_1 ?_
  refine lv_lstore (lv' := [(6, .long (1 : Int64)), (4, .long ((y0 / x3).toInt64)), (1, .int x1), (3, .int x3)]) C.1 C.2.1 dX10_clear_64 hl (by decide) rfl (fun ls hl => ?_)
  refine lv_iconst C.1 C.2.1 dX10_clear_66 ic_0 ?_
  refine lv_istore (lv' := [(8, .int (0 : Int32)), (6, .long (1 : Int64)), (4, .long ((y0 / x3).toInt64)), (1, .int x1), (3, .int x3)]) C.1 C.2.1 dX10_clear_67 hl (by decide) rfl (fun ls hl => ?_)
  exact kX10_clear_69  C 1000 x1 ((y0 / x3).toInt64) (1 : Int64) (0 : Int32) _ _ _  hW (lv_sub hl [3, 2, 1, 0] rfl) hf

set_option maxRecDepth 100000 in
theorem cX10_clear_ok {l : Launch} {G : Gv} {L : List Nat} {S : MS} {a0 : Nat} {a1 : Int32} {a2 : Int32} {q : Int64} (ha0 : a0 < shX.1 ∧ shX.2.1 a0 = 10) (hf : fX10_clear a0 a1 a2 S = some q) : Mt l yX10_clear cX10_clear 9 (some .long) (2) G shX L S [.ref (ad L a0), .int a1, .int a2] (some (.long q)) S := by
  refine m_enter (lv := [(0, .ref (ad L a0)), (1, .int a1), (2, .int a2)]) (plainFor_of_name (by decide)) (Nat.le_of_ble_eq_true rfl) rfl ?_
  intro p e s m below meth c A ls C hW hl
  unfold fX10_clear at hf
  refine lv_iload_n C.1 C.2.1 dX10_clear_0 rfl (lv_at hl 1 rfl) ?_
  refine lv_if_lt (tgt := 19) C.1 C.2.1 dX10_clear_1 rfl (fun c3 => ?_) (fun c3 => ?_)
  · have hf := (if_pos c3).symm.trans hf
    refine lv_ldc2 C.1 C.2.1 C.2.2.2.1 (C.2.2.2.2.1 _ kw_1171) dX10_clear_19 ?_
    cases hf
    exact m_lret C hW dX10_clear_22
  · have hf := (if_neg c3).symm.trans hf
    refine lv_iload_n C.1 C.2.1 dX10_clear_4 rfl (lv_at hl 1 rfl) ?_
    refine lv_bipush C.1 C.2.1 dX10_clear_5 bp_6 ?_
    refine lv_icmp_gt (tgt := 19) C.1 C.2.1 dX10_clear_7 rfl (fun c4 => ?_) (fun c4 => ?_)
    · have hf := (if_pos c4).symm.trans hf
      refine lv_ldc2 C.1 C.2.1 C.2.2.2.1 (C.2.2.2.2.1 _ kw_1171) dX10_clear_19 ?_
      cases hf
      exact m_lret C hW dX10_clear_22
    · have hf := (if_neg c4).symm.trans hf
      refine lv_iload_n C.1 C.2.1 dX10_clear_10 rfl (lv_at hl 2 rfl) ?_
      refine lv_if_lt (tgt := 19) C.1 C.2.1 dX10_clear_11 rfl (fun c5 => ?_) (fun c5 => ?_)
      · have hf := (if_pos c5).symm.trans hf
        refine lv_ldc2 C.1 C.2.1 C.2.2.2.1 (C.2.2.2.2.1 _ kw_1171) dX10_clear_19 ?_
        cases hf
        exact m_lret C hW dX10_clear_22
      · have hf := (if_neg c5).symm.trans hf
        refine lv_iload_n C.1 C.2.1 dX10_clear_14 rfl (lv_at hl 2 rfl) ?_
        refine lv_iconst C.1 C.2.1 dX10_clear_15 ic_1 ?_
        refine lv_icmp_le (tgt := 23) C.1 C.2.1 dX10_clear_16 rfl (fun c6 => ?_) (fun c6 => ?_)
        · have hf := (if_pos c6).symm.trans hf
          refine lv_bipush C.1 C.2.1 dX10_clear_23 bp_100 ?_
          refine lv_bipush C.1 C.2.1 dX10_clear_25 bp_100 ?_
          refine lv_aload_n C.1 C.2.1 dX10_clear_27 rfl (lv_at hl 0 rfl) ?_
          refine m_getr C hW ha0 flX10_16 (by decide) dX10_clear_28 (fun hk7 => ?_)
          refine m_geti C hW hk7 flX10_328 dX10_clear_31 ?_
          refine lv_isub C.1 C.2.1 dX10_clear_34 ?_
          obtain ⟨q8, h9, hf⟩ := bd hf
          refine m_callS (As := [.int (100 : Int32), .int ((100 : Int32) - (gI S (gR S a0 1) 13))]) (rest := []) C hW (cX10_commonDivisor_ok   h9) mlX10_331 rfl hl.1 rfl (Nat.le_of_ble_eq_true rfl) (Nat.le_of_ble_eq_true rfl) (Nat.le_of_ble_eq_true rfl) dX10_clear_35 (fun H locs hW => ?_)
          refine lv_istore_n (lv' := [(3, .int q8), (0, .ref (ad L a0)), (1, .int a1), (2, .int a2)]) C.1 C.2.1 dX10_clear_38 rfl hl (by decide) rfl (fun ls hl => ?_)
          refine lv_iload_n C.1 C.2.1 dX10_clear_39 rfl (lv_at hl 3 rfl) ?_
          refine lv_if_ne (tgt := 56) C.1 C.2.1 dX10_clear_40 rfl (fun c10 => ?_) (fun c10 => ?_)
          · have hf := (if_neg c10).symm.trans hf
            refine lv_bipush C.1 C.2.1 dX10_clear_56 bp_100 ?_
            exact kX10_clear_58  C a1 q8 (100 : Int32) _ _ _  hW (lv_sub hl [2, 0] rfl) hf
          · have hf := (if_pos c10).symm.trans hf
            refine lv_bipush C.1 C.2.1 dX10_clear_43 bp_100 ?_
            refine lv_aload_n C.1 C.2.1 dX10_clear_45 rfl (lv_at hl 1 rfl) ?_
            refine m_getr C hW ha0 flX10_16 (by decide) dX10_clear_46 (fun hk11 => ?_)
            refine m_geti C hW hk11 flX10_328 dX10_clear_49 ?_
            refine lv_isub C.1 C.2.1 dX10_clear_52 ?_
            refine lv_goto (tgt := 58) C.1 C.2.1 dX10_clear_53 rfl ?_
            exact kX10_clear_58  C a1 q8 ((100 : Int32) - (gI S (gR S a0 1) 13)) _ _ _  hW (lv_sub hl [2, 0] rfl) hf
        · have hf := (if_neg c6).symm.trans hf
          refine lv_ldc2 C.1 C.2.1 C.2.2.2.1 (C.2.2.2.2.1 _ kw_1171) dX10_clear_19 ?_
          cases hf
          exact m_lret C hW dX10_clear_22

