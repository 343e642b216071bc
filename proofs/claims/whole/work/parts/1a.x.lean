def fX4_lay_9 (Rc_y : Nat → Int32 → MS → Option MS)  (x0 : Nat) (S : MS) : Option MS := (fX4_weigh  x0 S).bind fun q1 => some q1
def fX4_lay_73 (Rc_y : Nat → Int32 → MS → Option MS) (K25 : Nat → Int32 → Nat → Int32 → MS → Option MS) (x0 : Nat) (x1 : Int32) (x2 : Nat) (x3 : Int32) (S : MS) : Option MS := (fX0_pass  (gR S x0 3) x2 (0 : Int32) S).bind fun q4 => (Rc_y x0 (x1 + (1 : Int32)) q4).bind fun q6 => K25 x0 x1 x2 (x3 + (1 : Int32)) q6
def fX4_lay_25 (Rc_y : Nat → Int32 → MS → Option MS)  : Nat → Nat → Int32 → Nat → Int32 → MS → Option MS
  | 0, _, _, _, _, _ => none
  | n + 1, x0, x1, x2, x3, S => (if (4 : Int32) < x3 then some S else (if (gI S x0 5) ≤ (gI S x0 4) then some S else (if bnd x1 (lnX (gR S x0 1)) = true then (if bnd x1 (lnX (gR (pI S (gR S x0 1) x1.toNatClampNeg x3) x0 2)) = true then (fX9_become  x2 (gR (pI S (gR S x0 1) x1.toNatClampNeg x3) (gR (pI S (gR S x0 1) x1.toNatClampNeg x3) x0 2) x1.toNatClampNeg) (pI S (gR S x0 1) x1.toNatClampNeg x3)).bind fun q15 => (if (4 : Int32) ≤ x3 then fX4_lay_73 Rc_y (fX4_lay_25 Rc_y  n) x0 x1 x2 x3 q15 else (fX0_attempt  (gR q15 x0 3) x2 x3 (0 : Int32) q15).bind fun q19 => fX4_lay_73 Rc_y (fX4_lay_25 Rc_y  n) x0 x1 x2 x3 q19) else none) else none)))
def fX4_lay_B (Rc_y : Nat → Int32 → MS → Option MS) (a0 : Nat) (a1 : Int32) (S : MS) : Option MS := (if a1 < (0 : Int32) then fX4_lay_9 Rc_y  a0 S else (if a1 < (4 : Int32) then (if bnd (a1 + (1 : Int32)) (lnX (gR S a0 2)) = true then fX4_lay_25 Rc_y  1000 a0 a1 (gR S (gR S a0 2) (a1 + (1 : Int32)).toNatClampNeg) (0 : Int32) S else none) else fX4_lay_9 Rc_y  a0 S))
set_option maxRecDepth 100000 in
theorem kX4_lay_9 {p : Program} {l : Launch} {e : Env} {s : State} {m : MethodId} {av : Array Value} {below : List Frame} {meth : Method} {c : Code} {A : Nat → Prop} {G : Gv} {L : List Nat} {q : MS} {Rc_y : Nat → Int32 → MS → Option MS} {dy : Nat} (hdy : 40 ≤ dy) (hRc_y : ∀ (a0 : Nat) (b0 : Int32) (S q : MS), (a0 < shX.1 ∧ shX.2.1 a0 = 4) → Rc_y a0 b0 S = some q → Mt l yX4_lay cX4_lay 4 none dy G shX L S [.ref (ad L a0), .int b0] none q)  (C : mC p s m av meth c cX4_lay RX4 4 none) : ∀ (x0 : Nat) (S : MS) (H : Heap) (locs : List Loc) (ls : Array Slot), (x0 < shX.1 ∧ shX.2.1 x0 = 4) → mW G shX L S A s H locs → lv_has ls 4 [(0, .ref (ad L x0))] → fX4_lay_9 Rc_y  x0 S = some q → W p l e (rmd (dy + 1)) s m av below meth c H locs 0 0 (MQ below (mQ G shX L q none A) av s 0 0 A) (F0 m 9 ls []) := by
  intro x0 S H locs ls hx0 hW hl hf
  unfold fX4_lay_9 at hf
  refine lv_aload_n C.1 C.2.1 dX4_lay_9 rfl (lv_at hl 0 rfl) ?_
  obtain ⟨q1, h2, hf⟩ := bd hf
  refine m_callV (As := []) (rest := []) C hW hx0 (cX4_weigh_ok  hx0 h2) mlX4_59 (by decide) rfl hl.1 rfl (Nat.le_of_ble_eq_true rfl) (by omega) (Nat.le_of_ble_eq_true rfl) dX4_lay_10 (fun H locs hW => ?_)
  cases hf
  exact m_vret C hW dX4_lay_13

set_option maxRecDepth 100000 in
theorem kX4_lay_73 {p : Program} {l : Launch} {e : Env} {s : State} {m : MethodId} {av : Array Value} {below : List Frame} {meth : Method} {c : Code} {A : Nat → Prop} {G : Gv} {L : List Nat} {q : MS} {Rc_y : Nat → Int32 → MS → Option MS} {dy : Nat} (hdy : 40 ≤ dy) (hRc_y : ∀ (a0 : Nat) (b0 : Int32) (S q : MS), (a0 < shX.1 ∧ shX.2.1 a0 = 4) → Rc_y a0 b0 S = some q → Mt l yX4_lay cX4_lay 4 none dy G shX L S [.ref (ad L a0), .int b0] none q) {K25 : Nat → Int32 → Nat → Int32 → MS → Option MS} (hK25 : ∀ (x0 : Nat) (x1 : Int32) (x2 : Nat) (x3 : Int32) (S : MS) (H : Heap) (locs : List Loc) (ls : Array Slot), (x0 < shX.1 ∧ shX.2.1 x0 = 4) → (x2 < shX.1 ∧ shX.2.1 x2 = 9) → mW G shX L S A s H locs → lv_has ls 4 [(0, .ref (ad L x0)), (1, .int x1), (2, .ref (ad L x2)), (3, .int x3)] → K25 x0 x1 x2 x3 S = some q → W p l e (rmd (dy + 1)) s m av below meth c H locs 0 0 (MQ below (mQ G shX L q none A) av s 0 0 A) (F0 m 25 ls [])) (C : mC p s m av meth c cX4_lay RX4 4 none) : ∀ (x0 : Nat) (x1 : Int32) (x2 : Nat) (x3 : Int32) (S : MS) (H : Heap) (locs : List Loc) (ls : Array Slot), (x0 < shX.1 ∧ shX.2.1 x0 = 4) → (x2 < shX.1 ∧ shX.2.1 x2 = 9) → mW G shX L S A s H locs → lv_has ls 4 [(0, .ref (ad L x0)), (1, .int x1), (2, .ref (ad L x2)), (3, .int x3)] → fX4_lay_73 Rc_y K25 x0 x1 x2 x3 S = some q → W p l e (rmd (dy + 1)) s m av below meth c H locs 0 0 (MQ below (mQ G shX L q none A) av s 0 0 A) (F0 m 73 ls []) := by
  intro x0 x1 x2 x3 S H locs ls hx0 hx2 hW hl hf
  unfold fX4_lay_73 at hf
  refine lv_aload_n C.1 C.2.1 dX4_lay_73 rfl (lv_at hl 0 rfl) ?_
  refine m_getr C hW hx0 flX4_25 (by decide) dX4_lay_74 (fun hk3 => ?_)
  refine lv_aload_n C.1 C.2.1 dX4_lay_77 rfl (lv_at hl 2 rfl) ?_
  refine lv_iconst C.1 C.2.1 dX4_lay_78 ic_0 ?_
  obtain ⟨q4, h5, hf⟩ := bd hf
  refine m_callV (As := [.ref (ad L x2), .int (0 : Int32)]) (rest := []) C hW hk3 (cX0_pass_ok  hk3 hx2 h5) mlX4_66 (by decide) rfl hl.1 rfl (Nat.le_of_ble_eq_true rfl) (by omega) (Nat.le_of_ble_eq_true rfl) dX4_lay_79 (fun H locs hW => ?_)
  refine lv_aload_n C.1 C.2.1 dX4_lay_82 rfl (lv_at hl 0 rfl) ?_
  refine lv_iload_n C.1 C.2.1 dX4_lay_83 rfl (lv_at hl 1 rfl) ?_
  refine lv_iconst C.1 C.2.1 dX4_lay_84 ic_1 ?_
  refine lv_iadd C.1 C.2.1 dX4_lay_85 ?_
  obtain ⟨q6, h7, hf⟩ := bd hf
  refine m_callV (As := [.int (x1 + (1 : Int32))]) (rest := []) C hW hx0 (hRc_y x0 (x1 + (1 : Int32)) q4 q6 hx0 h7) mlX4_55 (by decide) rfl hl.1 rfl (Nat.le_of_ble_eq_true rfl) (by omega) (Nat.le_of_ble_eq_true rfl) dX4_lay_86 (fun H locs hW => ?_)
  refine lv_iinc (v := x3 + (1 : Int32)) (lv' := [(3, .int (x3 + (1 : Int32))), (0, .ref (ad L x0)), (1, .int x1), (2, .ref (ad L x2))]) C.1 C.2.1 dX4_lay_89 hl (k := 3) rfl (congrArg (fun z => x3 + z) ic_1) (by decide) rfl (fun ls hl => ?_)
  refine lv_goto (tgt := 25) C.1 C.2.1 dX4_lay_92 rfl ?_
  exact hK25 x0 x1 x2 (x3 + (1 : Int32)) _ _ _ _ hx0 hx2 hW (lv_sub hl [1, 2, 3, 0] rfl) hf

set_option maxRecDepth 100000 in
theorem kX4_lay_25 {p : Program} {l : Launch} {e : Env} {s : State} {m : MethodId} {av : Array Value} {below : List Frame} {meth : Method} {c : Code} {A : Nat → Prop} {G : Gv} {L : List Nat} {q : MS} {Rc_y : Nat → Int32 → MS → Option MS} {dy : Nat} (hdy : 40 ≤ dy) (hRc_y : ∀ (a0 : Nat) (b0 : Int32) (S q : MS), (a0 < shX.1 ∧ shX.2.1 a0 = 4) → Rc_y a0 b0 S = some q → Mt l yX4_lay cX4_lay 4 none dy G shX L S [.ref (ad L a0), .int b0] none q)  (C : mC p s m av meth c cX4_lay RX4 4 none) : ∀ (n : Nat) (x0 : Nat) (x1 : Int32) (x2 : Nat) (x3 : Int32) (S : MS) (H : Heap) (locs : List Loc) (ls : Array Slot), (x0 < shX.1 ∧ shX.2.1 x0 = 4) → (x2 < shX.1 ∧ shX.2.1 x2 = 9) → mW G shX L S A s H locs → lv_has ls 4 [(0, .ref (ad L x0)), (1, .int x1), (2, .ref (ad L x2)), (3, .int x3)] → fX4_lay_25 Rc_y  n x0 x1 x2 x3 S = some q → W p l e (rmd (dy + 1)) s m av below meth c H locs 0 0 (MQ below (mQ G shX L q none A) av s 0 0 A) (F0 m 25 ls []) := by
  intro n
  induction n with
  | zero =>
    intro x0 x1 x2 x3 S H locs ls hx0 hx2 hW hl hf
    rw [fX4_lay_25] at hf
    cases hf
  | succ n ih =>
    intro x0 x1 x2 x3 S H locs ls hx0 hx2 hW hl hf
    rw [fX4_lay_25] at hf
    refine lv_iload_n C.1 C.2.1 dX4_lay_25 rfl (lv_at hl 3 rfl) ?_
    refine lv_iconst C.1 C.2.1 dX4_lay_26 ic_4 ?_
    refine lv_icmp_gt (tgt := 95) C.1 C.2.1 dX4_lay_27 rfl (fun c8 => ?_) (fun c8 => ?_)
    · have hf := (if_pos c8).symm.trans hf
      cases hf
      exact m_vret C hW dX4_lay_95
    · have hf := (if_neg c8).symm.trans hf
      refine lv_aload_n C.1 C.2.1 dX4_lay_30 rfl (lv_at hl 0 rfl) ?_
      refine m_geti C hW hx0 flX4_29 dX4_lay_31 ?_
      refine lv_aload_n C.1 C.2.1 dX4_lay_34 rfl (lv_at hl 0 rfl) ?_
      refine m_geti C hW hx0 flX4_48 dX4_lay_35 ?_
      refine lv_icmp_ge (tgt := 95) C.1 C.2.1 dX4_lay_38 rfl (fun c9 => ?_) (fun c9 => ?_)
      · have hf := (if_pos c9).symm.trans hf
        cases hf
        exact m_vret C hW dX4_lay_95
      · have hf := (if_neg c9).symm.trans hf
        refine lv_aload_n C.1 C.2.1 dX4_lay_41 rfl (lv_at hl 0 rfl) ?_
        refine m_getr C hW hx0 flX4_15 (by decide) dX4_lay_42 (fun hk10 => ?_)
        refine lv_iload_n C.1 C.2.1 dX4_lay_45 rfl (lv_at hl 1 rfl) ?_
        refine lv_iload_n C.1 C.2.1 dX4_lay_46 rfl (lv_at hl 3 rfl) ?_
        obtain ⟨hb11, hf⟩ := gd hf
        refine m_iast C hW hk10 hb11 dX4_lay_47 (fun H locs hW => ?_)
        refine lv_aload_n C.1 C.2.1 dX4_lay_48 rfl (lv_at hl 2 rfl) ?_
        refine lv_aload_n C.1 C.2.1 dX4_lay_49 rfl (lv_at hl 0 rfl) ?_
        refine m_getr C hW hx0 flX4_21 (by decide) dX4_lay_50 (fun hk12 => ?_)
        refine lv_iload_n C.1 C.2.1 dX4_lay_53 rfl (lv_at hl 1 rfl) ?_
        obtain ⟨hb13, hf⟩ := gd hf
        refine m_aald (kt := 9) C hW hk12 (by decide) hb13 dX4_lay_54 (fun hk14 => ?_)
        obtain ⟨q15, h16, hf⟩ := bd hf
        refine m_callV (As := [.ref (ad L (gR (pI S (gR S x0 1) x1.toNatClampNeg x3) (gR (pI S (gR S x0 1) x1.toNatClampNeg x3) x0 2) x1.toNatClampNeg))]) (rest := []) C hW hx2 (cX9_become_ok  hx2 hk14 h16) mlX4_51 (by decide) rfl hl.1 rfl (Nat.le_of_ble_eq_true rfl) (by omega) (Nat.le_of_ble_eq_true rfl) dX4_lay_55 (fun H locs hW => ?_)
        refine lv_iload_n C.1 C.2.1 dX4_lay_58 rfl (lv_at hl 3 rfl) ?_
        refine lv_iconst C.1 C.2.1 dX4_lay_59 ic_4 ?_
        refine lv_icmp_ge (tgt := 73) C.1 C.2.1 dX4_lay_60 rfl (fun c17 => ?_) (fun c17 => ?_)
        · have hf := (if_pos c17).symm.trans hf
          exact kX4_lay_73 hdy hRc_y ih C x0 x1 x2 x3 _ _ _ _ hx0 hx2 hW (lv_sub hl [0, 1, 2, 3] rfl) hf
        · have hf := (if_neg c17).symm.trans hf
          refine lv_aload_n C.1 C.2.1 dX4_lay_63 rfl (lv_at hl 0 rfl) ?_
          refine m_getr C hW hx0 flX4_25 (by decide) dX4_lay_64 (fun hk18 => ?_)
          refine lv_aload_n C.1 C.2.1 dX4_lay_67 rfl (lv_at hl 2 rfl) ?_
          refine lv_iload_n C.1 C.2.1 dX4_lay_68 rfl (lv_at hl 3 rfl) ?_
          refine lv_iconst C.1 C.2.1 dX4_lay_69 ic_0 ?_
          obtain ⟨q19, h20, hf⟩ := bd hf
          refine m_callV (As := [.ref (ad L x2), .int x3, .int (0 : Int32)]) (rest := []) C hW hk18 (cX0_attempt_ok  hk18 hx2 h20) mlX4_62 (by decide) rfl hl.1 rfl (Nat.le_of_ble_eq_true rfl) (by omega) (Nat.le_of_ble_eq_true rfl) dX4_lay_70 (fun H locs hW => ?_)
          exact kX4_lay_73 hdy hRc_y ih C x0 x1 x2 x3 _ _ _ _ hx0 hx2 hW (lv_sub hl [0, 1, 2, 3] rfl) hf

set_option maxRecDepth 100000 in
theorem cX4_lay_B_ok {l : Launch} {G : Gv} {L : List Nat} {Rc_y : Nat → Int32 → MS → Option MS} {dy : Nat} (hdy : 40 ≤ dy) (hRc_y : ∀ (a0 : Nat) (b0 : Int32) (S q : MS), (a0 < shX.1 ∧ shX.2.1 a0 = 4) → Rc_y a0 b0 S = some q → Mt l yX4_lay cX4_lay 4 none dy G shX L S [.ref (ad L a0), .int b0] none q) {S : MS} {a0 : Nat} {a1 : Int32} {q : MS} (ha0 : a0 < shX.1 ∧ shX.2.1 a0 = 4) (hf : fX4_lay_B Rc_y a0 a1 S = some q) : Mt l yX4_lay cX4_lay 4 none (dy + 1) G shX L S [.ref (ad L a0), .int a1] none q := by
  refine m_enter (lv := [(0, .ref (ad L a0)), (1, .int a1)]) (plainFor_of_name (by decide)) (Nat.le_of_ble_eq_true rfl) rfl ?_
  intro p e s m below meth c A ls C hW hl
  unfold fX4_lay_B at hf
  refine lv_iload_n C.1 C.2.1 dX4_lay_0 rfl (lv_at hl 1 rfl) ?_
  refine lv_if_lt (tgt := 9) C.1 C.2.1 dX4_lay_1 rfl (fun c21 => ?_) (fun c21 => ?_)
  · have hf := (if_pos c21).symm.trans hf
    exact kX4_lay_9 hdy hRc_y  C a0 _ _ _ _ ha0 hW (lv_sub hl [0] rfl) hf
  · have hf := (if_neg c21).symm.trans hf
    refine lv_iload_n C.1 C.2.1 dX4_lay_4 rfl (lv_at hl 1 rfl) ?_
    refine lv_iconst C.1 C.2.1 dX4_lay_5 ic_4 ?_
    refine lv_icmp_lt (tgt := 14) C.1 C.2.1 dX4_lay_6 rfl (fun c22 => ?_) (fun c22 => ?_)
    · have hf := (if_pos c22).symm.trans hf
      refine lv_aload_n C.1 C.2.1 dX4_lay_14 rfl (lv_at hl 0 rfl) ?_
      refine m_getr C hW ha0 flX4_21 (by decide) dX4_lay_15 (fun hk23 => ?_)
      refine lv_iload_n C.1 C.2.1 dX4_lay_18 rfl (lv_at hl 1 rfl) ?_
      refine lv_iconst C.1 C.2.1 dX4_lay_19 ic_1 ?_
      refine lv_iadd C.1 C.2.1 dX4_lay_20 ?_
      obtain ⟨hb24, hf⟩ := gd hf
      refine m_aald (kt := 9) C hW hk23 (by decide) hb24 dX4_lay_21 (fun hk25 => ?_)
      refine lv_astore_n (lv' := [(2, .ref (ad L (gR S (gR S a0 2) (a1 + (1 : Int32)).toNatClampNeg))), (0, .ref (ad L a0)), (1, .int a1)]) C.1 C.2.1 dX4_lay_22 rfl hl (by decide) rfl (fun ls hl => ?_)
      refine lv_iconst C.1 C.2.1 dX4_lay_23 ic_0 ?_
      refine lv_istore_n (lv' := [(3, .int (0 : Int32)), (2, .ref (ad L (gR S (gR S a0 2) (a1 + (1 : Int32)).toNatClampNeg))), (0, .ref (ad L a0)), (1, .int a1)]) C.1 C.2.1 dX4_lay_24 rfl hl (by decide) rfl (fun ls hl => ?_)
      exact kX4_lay_25 hdy hRc_y  C 1000 a0 a1 (gR S (gR S a0 2) (a1 + (1 : Int32)).toNatClampNeg) (0 : Int32) _ _ _ _ ha0 hk25 hW (lv_sub hl [2, 3, 1, 0] rfl) hf
    · have hf := (if_neg c22).symm.trans hf
      exact kX4_lay_9 hdy hRc_y  C a0 _ _ _ _ ha0 hW (lv_sub hl [0] rfl) hf

def fX4_layN : Nat → Nat → Int32 → MS → Option MS
  | 0, _, _, _ => none
  | n + 1, a0, a1, S => fX4_lay_B (fX4_layN n) a0 a1 S
def fX4_lay (a0 : Nat) (a1 : Int32) (S : MS) : Option MS := fX4_layN 6 a0 a1 S
theorem cX4_layN_ok {l : Launch} {G : Gv} {L : List Nat} : ∀ (n : Nat) (a0 : Nat) (a1 : Int32) (S q : MS), (a0 < shX.1 ∧ shX.2.1 a0 = 4) → fX4_layN n a0 a1 S = some q → Mt l yX4_lay cX4_lay 4 none (40 + n) G shX L S [.ref (ad L a0), .int a1] none q := by
  intro n
  induction n with
  | zero => intro a0 a1 S q _ hf; rw [fX4_layN] at hf; cases hf
  | succ n ih => intro a0 a1 S q h hf; rw [fX4_layN] at hf; exact cX4_lay_B_ok (dy := 40 + n) (by omega) ih h hf
theorem cX4_lay_ok {l : Launch} {G : Gv} {L : List Nat} {S : MS} {a0 : Nat} {a1 : Int32} {q : MS} (ha0 : a0 < shX.1 ∧ shX.2.1 a0 = 4) (hf : fX4_lay a0 a1 S = some q) : Mt l yX4_lay cX4_lay 4 none 46 G shX L S [.ref (ad L a0), .int a1] none q := cX4_layN_ok 6 a0 a1 S q ha0 hf

