def fX11_goes_96 (K12 : Nat → Int32 → Int32 → MS → Option (Int32 × MS)) (x0 : Nat) (x1 : Int32) (x2 : Int32) (S : MS) : Option (Int32 × MS) := K12 x0 x1 (x2 + (1 : Int32)) S
def fX11_goes_85 (K12 : Nat → Int32 → Int32 → MS → Option (Int32 × MS)) (x0 : Nat) (x1 : Int32) (x2 : Int32) (y0 : Nat) (y1 : Int32) (y2 : Int64) (S : MS) : Option (Int32 × MS) := (if bnd y1 (lnM y0) = true then fX11_goes_96 K12 x0 x1 x2 (pI (pJ S y0 y1.toNatClampNeg y2) x0 42 ((gI (pJ S y0 y1.toNatClampNeg y2) x0 42) + (1 : Int32))) else none)
def fX11_goes_12  : Nat → Nat → Int32 → Int32 → MS → Option (Int32 × MS)
  | 0, _, _, _, _ => none
  | n + 1, x0, x1, x2, S => (if bnd x1 (lnM (gR S x0 23)) = true then (if (gI S (gR S x0 23) x1.toNatClampNeg) ≤ x2 then some ((1 : Int32), S) else (if bnd x2 (lnM (gR S x0 24)) = true then (if gI S (gR S x0 24) x2.toNatClampNeg = (2 : Int32) then (if bnd x2 (lnM (gR S x0 25)) = true then (fX11_works  x0 (gI S (gR S x0 25) x2.toNatClampNeg) S).bind fun q20 => (if q20.1 = (0 : Int32) then some ((0 : Int32), q20.2) else fX11_goes_96 (fX11_goes_12  n) x0 x1 x2 q20.2) else none) else (if bnd x2 (lnM (gR S x0 24)) = true then (if gI S (gR S x0 24) x2.toNatClampNeg = (0 : Int32) then (if bnd x2 (lnM (gR S x0 25)) = true then fX11_goes_85 (fX11_goes_12  n) x0 x1 x2 (gR S x0 41) (gI S x0 42) ((gI S (gR S x0 25) x2.toNatClampNeg).toInt64) S else none) else (if bnd x2 (lnM (gR S x0 25)) = true then (if bnd (gI S (gR S x0 25) x2.toNatClampNeg) (lnM (gR S x0 40)) = true then fX11_goes_85 (fX11_goes_12  n) x0 x1 x2 (gR S x0 41) (gI S x0 42) (gJ S (gR S x0 40) (gI S (gR S x0 25) x2.toNatClampNeg).toNatClampNeg) S else none) else none)) else none)) else none)) else none)
def fX11_goes (a0 : Nat) (a1 : Int32) (S : MS) : Option (Int32 × MS) := (if bnd a1 (lnM (gR (pI S a0 42 (0 : Int32)) a0 22)) = true then fX11_goes_12  1000 a0 a1 (gI (pI S a0 42 (0 : Int32)) (gR (pI S a0 42 (0 : Int32)) a0 22) a1.toNatClampNeg) (pI S a0 42 (0 : Int32)) else none)
set_option maxRecDepth 100000 in
theorem kX11_goes_96 {p : Program} {l : Launch} {e : Env} {s : State} {m : MethodId} {av : Array Value} {below : List Frame} {meth : Method} {c : Code} {A : Nat → Prop} {G : Gv} {L : List Nat} {q : (Int32 × MS)} {K12 : Nat → Int32 → Int32 → MS → Option (Int32 × MS)} (hK12 : ∀ (x0 : Nat) (x1 : Int32) (x2 : Int32) (S : MS) (H : Heap) (locs : List Loc) (ls : Array Slot), (x0 < shM.1 ∧ shM.2.1 x0 = 11) → mW G shM L S A s H locs → lv_has ls 3 [(0, .ref (ad L x0)), (1, .int x1), (2, .int x2)] → K12 x0 x1 x2 S = some q → W p l e (rmd (3)) s m av below meth c H locs 0 0 (MQ below (mQ G shM L q.2 (some (.int q.1)) A) av s 0 0 A) (F0 m 12 ls [])) (C : mC p s m av meth c cX11_goes RX11 3 (some .boolean)) : ∀ (x0 : Nat) (x1 : Int32) (x2 : Int32) (S : MS) (H : Heap) (locs : List Loc) (ls : Array Slot), (x0 < shM.1 ∧ shM.2.1 x0 = 11) → mW G shM L S A s H locs → lv_has ls 3 [(0, .ref (ad L x0)), (1, .int x1), (2, .int x2)] → fX11_goes_96 K12 x0 x1 x2 S = some q → W p l e (rmd (3)) s m av below meth c H locs 0 0 (MQ below (mQ G shM L q.2 (some (.int q.1)) A) av s 0 0 A) (F0 m 96 ls []) := by
  intro x0 x1 x2 S H locs ls hx0 hW hl hf
  unfold fX11_goes_96 at hf
  refine lv_iinc (v := x2 + (1 : Int32)) (lv' := [(2, .int (x2 + (1 : Int32))), (0, .ref (ad L x0)), (1, .int x1)]) C.1 C.2.1 dX11_goes_96 hl (k := 2) rfl (congrArg (fun z => x2 + z) ic_1) (by decide) rfl (fun ls hl => ?_)
  refine lv_goto (tgt := 12) C.1 C.2.1 dX11_goes_99 rfl ?_
  exact hK12 x0 x1 (x2 + (1 : Int32)) _ _ _ _ hx0 hW (lv_sub hl [1, 2, 0] rfl) hf

set_option maxRecDepth 100000 in
theorem kX11_goes_85 {p : Program} {l : Launch} {e : Env} {s : State} {m : MethodId} {av : Array Value} {below : List Frame} {meth : Method} {c : Code} {A : Nat → Prop} {G : Gv} {L : List Nat} {q : (Int32 × MS)} {K12 : Nat → Int32 → Int32 → MS → Option (Int32 × MS)} (hK12 : ∀ (x0 : Nat) (x1 : Int32) (x2 : Int32) (S : MS) (H : Heap) (locs : List Loc) (ls : Array Slot), (x0 < shM.1 ∧ shM.2.1 x0 = 11) → mW G shM L S A s H locs → lv_has ls 3 [(0, .ref (ad L x0)), (1, .int x1), (2, .int x2)] → K12 x0 x1 x2 S = some q → W p l e (rmd (3)) s m av below meth c H locs 0 0 (MQ below (mQ G shM L q.2 (some (.int q.1)) A) av s 0 0 A) (F0 m 12 ls [])) (C : mC p s m av meth c cX11_goes RX11 3 (some .boolean)) : ∀ (x0 : Nat) (x1 : Int32) (x2 : Int32) (y0 : Nat) (y1 : Int32) (y2 : Int64) (S : MS) (H : Heap) (locs : List Loc) (ls : Array Slot), (x0 < shM.1 ∧ shM.2.1 x0 = 11) → (y0 < shM.1 ∧ shM.2.1 y0 = 14) → mW G shM L S A s H locs → lv_has ls 3 [(0, .ref (ad L x0)), (1, .int x1), (2, .int x2)] → fX11_goes_85 K12 x0 x1 x2 y0 y1 y2 S = some q → W p l e (rmd (3)) s m av below meth c H locs 0 0 (MQ below (mQ G shM L q.2 (some (.int q.1)) A) av s 0 0 A) (F0 m 85 ls [.long y2, .int y1, .ref (ad L y0)]) := by
  intro x0 x1 x2 y0 y1 y2 S H locs ls hx0 hy0 hW hl hf
  unfold fX11_goes_85 at hf
  obtain ⟨hb1, hf⟩ := gd hf
  refine m_last C hW hy0 hb1 dX11_goes_85 (fun H locs hW => ?_)
  refine lv_aload_n C.1 C.2.1 dX11_goes_86 rfl (lv_at hl 0 rfl) ?_
  refine lv_dup C.1 C.2.1 dX11_goes_87 rfl ?_
  refine m_geti C hW hx0 flX11_338 dX11_goes_88 ?_
  refine lv_iconst C.1 C.2.1 dX11_goes_91 ic_1 ?_
  refine lv_iadd C.1 C.2.1 dX11_goes_92 ?_
  refine m_puti C hW hx0 fpX11_338 dX11_goes_93 (fun H locs hW => ?_)
  exact kX11_goes_96 hK12 C x0 x1 x2 _ _ _ _ hx0 hW (lv_sub hl [0, 1, 2] rfl) hf

set_option maxRecDepth 100000 in
theorem kX11_goes_12 {p : Program} {l : Launch} {e : Env} {s : State} {m : MethodId} {av : Array Value} {below : List Frame} {meth : Method} {c : Code} {A : Nat → Prop} {G : Gv} {L : List Nat} {q : (Int32 × MS)}  (C : mC p s m av meth c cX11_goes RX11 3 (some .boolean)) : ∀ (n : Nat) (x0 : Nat) (x1 : Int32) (x2 : Int32) (S : MS) (H : Heap) (locs : List Loc) (ls : Array Slot), (x0 < shM.1 ∧ shM.2.1 x0 = 11) → mW G shM L S A s H locs → lv_has ls 3 [(0, .ref (ad L x0)), (1, .int x1), (2, .int x2)] → fX11_goes_12  n x0 x1 x2 S = some q → W p l e (rmd (3)) s m av below meth c H locs 0 0 (MQ below (mQ G shM L q.2 (some (.int q.1)) A) av s 0 0 A) (F0 m 12 ls []) := by
  intro n
  induction n with
  | zero =>
    intro x0 x1 x2 S H locs ls hx0 hW hl hf
    rw [fX11_goes_12] at hf
    cases hf
  | succ n ih =>
    intro x0 x1 x2 S H locs ls hx0 hW hl hf
    rw [fX11_goes_12] at hf
    refine lv_iload_n C.1 C.2.1 dX11_goes_12 rfl (lv_at hl 2 rfl) ?_
    refine lv_aload_n C.1 C.2.1 dX11_goes_13 rfl (lv_at hl 0 rfl) ?_
    refine m_getr C hW hx0 flX11_73 (by decide) dX11_goes_14 (fun hk2 => ?_)
    refine lv_iload_n C.1 C.2.1 dX11_goes_17 rfl (lv_at hl 1 rfl) ?_
    obtain ⟨hb3, hf⟩ := gd hf
    refine m_iald C hW hk2 hb3 dX11_goes_18 ?_
    refine lv_icmp_ge (tgt := 102) C.1 C.2.1 dX11_goes_19 rfl (fun c4 => ?_) (fun c4 => ?_)
    · have hf := (if_pos c4).symm.trans hf
      refine lv_iconst C.1 C.2.1 dX11_goes_102 ic_1 ?_
      cases hf
      exact m_zret C hW rfl dX11_goes_103
    · have hf := (if_neg c4).symm.trans hf
      refine lv_aload_n C.1 C.2.1 dX11_goes_22 rfl (lv_at hl 0 rfl) ?_
      refine m_getr C hW hx0 flX11_76 (by decide) dX11_goes_23 (fun hk5 => ?_)
      refine lv_iload_n C.1 C.2.1 dX11_goes_26 rfl (lv_at hl 2 rfl) ?_
      obtain ⟨hb6, hf⟩ := gd hf
      refine m_iald C hW hk5 hb6 dX11_goes_27 ?_
      refine lv_iconst C.1 C.2.1 dX11_goes_28 ic_2 ?_
      refine lv_icmp_ne (tgt := 47) C.1 C.2.1 dX11_goes_29 rfl (fun c7 => ?_) (fun c7 => ?_)
      · have hf := (if_neg c7).symm.trans hf
        refine lv_aload_n C.1 C.2.1 dX11_goes_47 rfl (lv_at hl 0 rfl) ?_
        refine m_getr C hW hx0 flX11_90 (by decide) dX11_goes_48 (fun hk8 => ?_)
        refine lv_aload_n C.1 C.2.1 dX11_goes_51 rfl (lv_at hl 0 rfl) ?_
        refine m_geti C hW hx0 flX11_338 dX11_goes_52 ?_
        refine lv_aload_n C.1 C.2.1 dX11_goes_55 rfl (lv_at hl 0 rfl) ?_
        refine m_getr C hW hx0 flX11_76 (by decide) dX11_goes_56 (fun hk9 => ?_)
        refine lv_iload_n C.1 C.2.1 dX11_goes_59 rfl (lv_at hl 2 rfl) ?_
        obtain ⟨hb10, hf⟩ := gd hf
        refine m_iald C hW hk9 hb10 dX11_goes_60 ?_
        refine lv_if_ne (tgt := 74) C.1 C.2.1 dX11_goes_61 rfl (fun c11 => ?_) (fun c11 => ?_)
        · have hf := (if_neg c11).symm.trans hf
          refine lv_aload_n C.1 C.2.1 dX11_goes_74 rfl (lv_at hl 0 rfl) ?_
          refine m_getr C hW hx0 flX11_86 (by decide) dX11_goes_75 (fun hk12 => ?_)
          refine lv_aload_n C.1 C.2.1 dX11_goes_78 rfl (lv_at hl 0 rfl) ?_
          refine m_getr C hW hx0 flX11_79 (by decide) dX11_goes_79 (fun hk13 => ?_)
          refine lv_iload_n C.1 C.2.1 dX11_goes_82 rfl (lv_at hl 2 rfl) ?_
          obtain ⟨hb14, hf⟩ := gd hf
          refine m_iald C hW hk13 hb14 dX11_goes_83 ?_
          obtain ⟨hb15, hf⟩ := gd hf
          refine m_lald C hW hk12 hb15 dX11_goes_84 ?_
          exact kX11_goes_85 ih C x0 x1 x2 (gR S x0 41) (gI S x0 42) (gJ S (gR S x0 40) (gI S (gR S x0 25) x2.toNatClampNeg).toNatClampNeg) _ _ _ _ hx0 hk8 hW (lv_sub hl [0, 1, 2] rfl) hf
        · have hf := (if_pos c11).symm.trans hf
          refine lv_aload_n C.1 C.2.1 dX11_goes_64 rfl (lv_at hl 0 rfl) ?_
          refine m_getr C hW hx0 flX11_79 (by decide) dX11_goes_65 (fun hk16 => ?_)
          refine lv_iload_n C.1 C.2.1 dX11_goes_68 rfl (lv_at hl 2 rfl) ?_
          obtain ⟨hb17, hf⟩ := gd hf
          refine m_iald C hW hk16 hb17 dX11_goes_69 ?_
          refine lv_i2l C.1 C.2.1 dX11_goes_70 rfl ?_
          refine lv_goto (tgt := 85) C.1 C.2.1 dX11_goes_71 rfl ?_
          exact kX11_goes_85 ih C x0 x1 x2 (gR S x0 41) (gI S x0 42) ((gI S (gR S x0 25) x2.toNatClampNeg).toInt64) _ _ _ _ hx0 hk8 hW (lv_sub hl [0, 1, 2] rfl) hf
      · have hf := (if_pos c7).symm.trans hf
        refine lv_aload_n C.1 C.2.1 dX11_goes_32 rfl (lv_at hl 0 rfl) ?_
        refine lv_aload_n C.1 C.2.1 dX11_goes_33 rfl (lv_at hl 0 rfl) ?_
        refine m_getr C hW hx0 flX11_79 (by decide) dX11_goes_34 (fun hk18 => ?_)
        refine lv_iload_n C.1 C.2.1 dX11_goes_37 rfl (lv_at hl 2 rfl) ?_
        obtain ⟨hb19, hf⟩ := gd hf
        refine m_iald C hW hk18 hb19 dX11_goes_38 ?_
        obtain ⟨q20, h21, hf⟩ := bd hf
        refine m_callV (As := [.int (gI S (gR S x0 25) x2.toNatClampNeg)]) (rest := []) C hW hx0 (cX11_works_ok  hx0 h21) mlX11_355 (by decide) rfl hl.1 rfl (Nat.le_of_ble_eq_true rfl) (Nat.le_of_ble_eq_true rfl) (Nat.le_of_ble_eq_true rfl) dX11_goes_39 (fun H locs hW => ?_)
        refine lv_if_ne (tgt := 96) C.1 C.2.1 dX11_goes_42 rfl (fun c22 => ?_) (fun c22 => ?_)
        · have hf := (if_neg c22).symm.trans hf
          exact kX11_goes_96 ih C x0 x1 x2 _ _ _ _ hx0 hW (lv_sub hl [0, 1, 2] rfl) hf
        · have hf := (if_pos c22).symm.trans hf
          refine lv_iconst C.1 C.2.1 dX11_goes_45 ic_0 ?_
          cases hf
          exact m_zret C hW rfl dX11_goes_46

set_option maxRecDepth 100000 in
theorem cX11_goes_ok {l : Launch} {G : Gv} {L : List Nat} {S : MS} {a0 : Nat} {a1 : Int32} {q : (Int32 × MS)} (ha0 : a0 < shM.1 ∧ shM.2.1 a0 = 11) (hf : fX11_goes a0 a1 S = some q) : Mt l yX11_goes cX11_goes 3 (some .boolean) (3) G shM L S [.ref (ad L a0), .int a1] (some (.int q.1)) q.2 := by
  refine m_enter (lv := [(0, .ref (ad L a0)), (1, .int a1)]) (plainFor_of_name (by decide)) (Nat.le_of_ble_eq_true rfl) rfl ?_
  intro p e s m below meth c A ls C hW hl
  unfold fX11_goes at hf
  refine lv_aload_n C.1 C.2.1 dX11_goes_0 rfl (lv_at hl 0 rfl) ?_
  refine lv_iconst C.1 C.2.1 dX11_goes_1 ic_0 ?_
  refine m_puti C hW ha0 fpX11_338 dX11_goes_2 (fun H locs hW => ?_)
  refine lv_aload_n C.1 C.2.1 dX11_goes_5 rfl (lv_at hl 0 rfl) ?_
  refine m_getr C hW ha0 flX11_70 (by decide) dX11_goes_6 (fun hk23 => ?_)
  refine lv_iload_n C.1 C.2.1 dX11_goes_9 rfl (lv_at hl 1 rfl) ?_
  obtain ⟨hb24, hf⟩ := gd hf
  refine m_iald C hW hk23 hb24 dX11_goes_10 ?_
  refine lv_istore_n (lv' := [(2, .int (gI (pI S a0 42 (0 : Int32)) (gR (pI S a0 42 (0 : Int32)) a0 22) a1.toNatClampNeg)), (0, .ref (ad L a0)), (1, .int a1)]) C.1 C.2.1 dX11_goes_11 rfl hl (by decide) rfl (fun ls hl => ?_)
  exact kX11_goes_12  C 1000 a0 a1 (gI (pI S a0 42 (0 : Int32)) (gR (pI S a0 42 (0 : Int32)) a0 22) a1.toNatClampNeg) _ _ _ _ ha0 hW (lv_sub hl [1, 2, 0] rfl) hf

def fX11_canStep_53  (x0 : Nat) (x1 : Int32) (S : MS) : Option Int32 := (if gI S x0 57 = (4 : Int32) then some (1 : Int32) else (if bnd x1 (lnM (gR S x0 48)) = true then (if (9 : Int32) ≤ (gI S (gR S x0 48) x1.toNatClampNeg) then some (0 : Int32) else some (1 : Int32)) else none))
def fX11_canStep (a0 : Nat) (a1 : Int32) (a2 : Int32) (S : MS) : Option Int32 := (if bnd a1 (lnM (gR S a0 46)) = true then (fX11_rowBy  a2 S).bind fun q7 => (if bnd a1 (lnM (gR S a0 47)) = true then (fX11_columnBy  a2 S).bind fun q11 => (fX11_isCell  a0 ((gI S (gR S a0 46) a1.toNatClampNeg) + q7) ((gI S (gR S a0 47) a1.toNatClampNeg) + q11) S).bind fun q13 => (if q13 = (0 : Int32) then some (0 : Int32) else (if gI S a0 57 = (3 : Int32) then fX11_canStep_53  a0 a1 S else (fX11_isWall  a0 ((gI S (gR S a0 46) a1.toNatClampNeg) + q7) ((gI S (gR S a0 47) a1.toNatClampNeg) + q11) S).bind fun q17 => (if q17 = (0 : Int32) then fX11_canStep_53  a0 a1 S else some (0 : Int32)))) else none) else none)
set_option maxRecDepth 100000 in
theorem kX11_canStep_53 {p : Program} {l : Launch} {e : Env} {s : State} {m : MethodId} {av : Array Value} {below : List Frame} {meth : Method} {c : Code} {A : Nat → Prop} {G : Gv} {L : List Nat} {S : MS} {q : Int32}  (C : mC p s m av meth c cX11_canStep RX11 5 (some .boolean)) : ∀ (x0 : Nat) (x1 : Int32) (H : Heap) (locs : List Loc) (ls : Array Slot), (x0 < shM.1 ∧ shM.2.1 x0 = 11) → mW G shM L S A s H locs → lv_has ls 5 [(0, .ref (ad L x0)), (1, .int x1)] → fX11_canStep_53  x0 x1 S = some q → W p l e (rmd (3)) s m av below meth c H locs 0 0 (MQ below (mQ G shM L S (some (.int q)) A) av s 0 0 A) (F0 m 53 ls []) := by
  intro x0 x1 H locs ls hx0 hW hl hf
  unfold fX11_canStep_53 at hf
  refine lv_aload_n C.1 C.2.1 dX11_canStep_53 rfl (lv_at hl 0 rfl) ?_
  refine m_geti C hW hx0 flX11_409 dX11_canStep_54 ?_
  refine lv_iconst C.1 C.2.1 dX11_canStep_57 ic_4 ?_
  refine lv_icmp_eq (tgt := 72) C.1 C.2.1 dX11_canStep_58 rfl (fun c1 => ?_) (fun c1 => ?_)
  · have hf := (if_pos c1).symm.trans hf
    refine lv_iconst C.1 C.2.1 dX11_canStep_72 ic_1 ?_
    refine lv_goto (tgt := 77) C.1 C.2.1 dX11_canStep_73 rfl ?_
    cases hf
    exact m_zret C hW rfl dX11_canStep_77
  · have hf := (if_neg c1).symm.trans hf
    refine lv_aload_n C.1 C.2.1 dX11_canStep_61 rfl (lv_at hl 0 rfl) ?_
    refine m_getr C hW hx0 flX11_108 (by decide) dX11_canStep_62 (fun hk2 => ?_)
    refine lv_iload_n C.1 C.2.1 dX11_canStep_65 rfl (lv_at hl 1 rfl) ?_
    obtain ⟨hb3, hf⟩ := gd hf
    refine m_iald C hW hk2 hb3 dX11_canStep_66 ?_
    refine lv_bipush C.1 C.2.1 dX11_canStep_67 bp_9 ?_
    refine lv_icmp_ge (tgt := 76) C.1 C.2.1 dX11_canStep_69 rfl (fun c4 => ?_) (fun c4 => ?_)
    · have hf := (if_pos c4).symm.trans hf
      refine lv_iconst C.1 C.2.1 dX11_canStep_76 ic_0 ?_
      cases hf
      exact m_zret C hW rfl dX11_canStep_77
    · have hf := (if_neg c4).symm.trans hf
      refine lv_iconst C.1 C.2.1 dX11_canStep_72 ic_1 ?_
      refine lv_goto (tgt := 77) C.1 C.2.1 dX11_canStep_73 rfl ?_
      cases hf
      exact m_zret C hW rfl dX11_canStep_77

set_option maxRecDepth 100000 in
theorem cX11_canStep_ok {l : Launch} {G : Gv} {L : List Nat} {S : MS} {a0 : Nat} {a1 : Int32} {a2 : Int32} {q : Int32} (ha0 : a0 < shM.1 ∧ shM.2.1 a0 = 11) (hf : fX11_canStep a0 a1 a2 S = some q) : Mt l yX11_canStep cX11_canStep 5 (some .boolean) (3) G shM L S [.ref (ad L a0), .int a1, .int a2] (some (.int q)) S := by
  refine m_enter (lv := [(0, .ref (ad L a0)), (1, .int a1), (2, .int a2)]) (plainFor_of_name (by decide)) (Nat.le_of_ble_eq_true rfl) rfl ?_
  intro p e s m below meth c A ls C hW hl
  unfold fX11_canStep at hf
  refine lv_aload_n C.1 C.2.1 dX11_canStep_0 rfl (lv_at hl 0 rfl) ?_
  refine m_getr C hW ha0 flX11_102 (by decide) dX11_canStep_1 (fun hk5 => ?_)
  refine lv_iload_n C.1 C.2.1 dX11_canStep_4 rfl (lv_at hl 1 rfl) ?_
  obtain ⟨hb6, hf⟩ := gd hf
  refine m_iald C hW hk5 hb6 dX11_canStep_5 ?_
  refine lv_iload_n C.1 C.2.1 dX11_canStep_6 rfl (lv_at hl 2 rfl) ?_
  obtain ⟨q7, h8, hf⟩ := bd hf
  refine m_callS (As := [.int a2]) (rest := [.int (gI S (gR S a0 46) a1.toNatClampNeg)]) C hW (cX11_rowBy_ok   h8) mlX11_390 rfl hl.1 rfl (Nat.le_of_ble_eq_true rfl) (Nat.le_of_ble_eq_true rfl) (Nat.le_of_ble_eq_true rfl) dX11_canStep_7 (fun H locs hW => ?_)
  refine lv_iadd C.1 C.2.1 dX11_canStep_10 ?_
  refine lv_istore_n (lv' := [(3, .int ((gI S (gR S a0 46) a1.toNatClampNeg) + q7)), (0, .ref (ad L a0)), (1, .int a1), (2, .int a2)]) C.1 C.2.1 dX11_canStep_11 rfl hl (by decide) rfl (fun ls hl => ?_)
  refine lv_aload_n C.1 C.2.1 dX11_canStep_12 rfl (lv_at hl 1 rfl) ?_
  refine m_getr C hW ha0 flX11_105 (by decide) dX11_canStep_13 (fun hk9 => ?_)
  refine lv_iload_n C.1 C.2.1 dX11_canStep_16 rfl (lv_at hl 2 rfl) ?_
  obtain ⟨hb10, hf⟩ := gd hf
  refine m_iald C hW hk9 hb10 dX11_canStep_17 ?_
  refine lv_iload_n C.1 C.2.1 dX11_canStep_18 rfl (lv_at hl 3 rfl) ?_
  obtain ⟨q11, h12, hf⟩ := bd hf
  refine m_callS (As := [.int a2]) (rest := [.int (gI S (gR S a0 47) a1.toNatClampNeg)]) C hW (cX11_columnBy_ok   h12) mlX11_396 rfl hl.1 rfl (Nat.le_of_ble_eq_true rfl) (Nat.le_of_ble_eq_true rfl) (Nat.le_of_ble_eq_true rfl) dX11_canStep_19 (fun H locs hW => ?_)
  refine lv_iadd C.1 C.2.1 dX11_canStep_22 ?_
  refine lv_istore (lv' := [(4, .int ((gI S (gR S a0 47) a1.toNatClampNeg) + q11)), (3, .int ((gI S (gR S a0 46) a1.toNatClampNeg) + q7)), (0, .ref (ad L a0)), (1, .int a1), (2, .int a2)]) C.1 C.2.1 dX11_canStep_23 hl (by decide) rfl (fun ls hl => ?_)
  refine lv_aload_n C.1 C.2.1 dX11_canStep_25 rfl (lv_at hl 2 rfl) ?_
  refine lv_iload_n C.1 C.2.1 dX11_canStep_26 rfl (lv_at hl 1 rfl) ?_
  refine lv_iload C.1 C.2.1 dX11_canStep_27 (lv_at hl 0 rfl) ?_
  obtain ⟨q13, h14, hf⟩ := bd hf
  refine m_callV (As := [.int ((gI S (gR S a0 46) a1.toNatClampNeg) + q7), .int ((gI S (gR S a0 47) a1.toNatClampNeg) + q11)]) (rest := []) C hW ha0 (cX11_isCell_ok  ha0 h14) mlX11_399 (by decide) rfl hl.1 rfl (Nat.le_of_ble_eq_true rfl) (Nat.le_of_ble_eq_true rfl) (Nat.le_of_ble_eq_true rfl) dX11_canStep_29 (fun H locs hW => ?_)
  refine lv_if_eq (tgt := 76) C.1 C.2.1 dX11_canStep_32 rfl (fun c15 => ?_) (fun c15 => ?_)
  · have hf := (if_pos c15).symm.trans hf
    refine lv_iconst C.1 C.2.1 dX11_canStep_76 ic_0 ?_
    cases hf
    exact m_zret C hW rfl dX11_canStep_77
  · have hf := (if_neg c15).symm.trans hf
    refine lv_aload_n C.1 C.2.1 dX11_canStep_35 rfl (lv_at hl 2 rfl) ?_
    refine m_geti C hW ha0 flX11_409 dX11_canStep_36 ?_
    refine lv_iconst C.1 C.2.1 dX11_canStep_39 ic_3 ?_
    refine lv_icmp_eq (tgt := 53) C.1 C.2.1 dX11_canStep_40 rfl (fun c16 => ?_) (fun c16 => ?_)
    · have hf := (if_pos c16).symm.trans hf
      exact kX11_canStep_53  C a0 a1 _ _ _ ha0 hW (lv_sub hl [2, 3] rfl) hf
    · have hf := (if_neg c16).symm.trans hf
      refine lv_aload_n C.1 C.2.1 dX11_canStep_43 rfl (lv_at hl 2 rfl) ?_
      refine lv_iload_n C.1 C.2.1 dX11_canStep_44 rfl (lv_at hl 1 rfl) ?_
      refine lv_iload C.1 C.2.1 dX11_canStep_45 (lv_at hl 0 rfl) ?_
      obtain ⟨q17, h18, hf⟩ := bd hf
      refine m_callV (As := [.int ((gI S (gR S a0 46) a1.toNatClampNeg) + q7), .int ((gI S (gR S a0 47) a1.toNatClampNeg) + q11)]) (rest := []) C hW ha0 (cX11_isWall_ok  ha0 h18) mlX11_430 (by decide) rfl hl.1 rfl (Nat.le_of_ble_eq_true rfl) (Nat.le_of_ble_eq_true rfl) (Nat.le_of_ble_eq_true rfl) dX11_canStep_47 (fun H locs hW => ?_)
      refine lv_if_ne (tgt := 76) C.1 C.2.1 dX11_canStep_50 rfl (fun c19 => ?_) (fun c19 => ?_)
      · have hf := (if_neg c19).symm.trans hf
        refine lv_iconst C.1 C.2.1 dX11_canStep_76 ic_0 ?_
        cases hf
        exact m_zret C hW rfl dX11_canStep_77
      · have hf := (if_pos c19).symm.trans hf
        exact kX11_canStep_53  C a0 a1 _ _ _ ha0 hW (lv_sub hl [2, 3] rfl) hf

def fX11_wall (a0 : Nat) (a1 : Int32) (a2 : Int32) (S : MS) : Option (Int32 × MS) := (fX11_isCell  a0 a1 a2 (pI S a0 0 (0 : Int32))).bind fun q1 => (if q1 = (0 : Int32) then some ((-1 : Int32), pI S a0 0 (0 : Int32)) else (fX11_isWall  a0 a1 a2 (pI S a0 0 (0 : Int32))).bind fun q4 => (if q4 = (0 : Int32) then some ((0 : Int32), pI S a0 0 (0 : Int32)) else some ((1 : Int32), pI S a0 0 (0 : Int32))))
set_option maxRecDepth 100000 in
theorem cX11_wall_ok {l : Launch} {G : Gv} {L : List Nat} {S : MS} {a0 : Nat} {a1 : Int32} {a2 : Int32} {q : (Int32 × MS)} (ha0 : a0 < shM.1 ∧ shM.2.1 a0 = 11) (hf : fX11_wall a0 a1 a2 S = some q) : Mt l yX11_wall cX11_wall 3 (some .int) (3) G shM L S [.ref (ad L a0), .int a1, .int a2] (some (.int q.1)) q.2 := by
  refine m_enter (lv := [(0, .ref (ad L a0)), (1, .int a1), (2, .int a2)]) (plainFor_of_name (by decide)) (Nat.le_of_ble_eq_true rfl) rfl ?_
  intro p e s m below meth c A ls C hW hl
  unfold fX11_wall at hf
  refine lv_aload_n C.1 C.2.1 dX11_wall_0 rfl (lv_at hl 0 rfl) ?_
  refine lv_iconst C.1 C.2.1 dX11_wall_1 ic_0 ?_
  refine m_puti C hW ha0 fpX11_163 dX11_wall_2 (fun H locs hW => ?_)
  refine lv_aload_n C.1 C.2.1 dX11_wall_5 rfl (lv_at hl 0 rfl) ?_
  refine lv_iload_n C.1 C.2.1 dX11_wall_6 rfl (lv_at hl 1 rfl) ?_
  refine lv_iload_n C.1 C.2.1 dX11_wall_7 rfl (lv_at hl 2 rfl) ?_
  obtain ⟨q1, h2, hf⟩ := bd hf
  refine m_callV (As := [.int a1, .int a2]) (rest := []) C hW ha0 (cX11_isCell_ok  ha0 h2) mlX11_399 (by decide) rfl hl.1 rfl (Nat.le_of_ble_eq_true rfl) (Nat.le_of_ble_eq_true rfl) (Nat.le_of_ble_eq_true rfl) dX11_wall_8 (fun H locs hW => ?_)
  refine lv_if_ne (tgt := 18) C.1 C.2.1 dX11_wall_11 rfl (fun c3 => ?_) (fun c3 => ?_)
  · have hf := (if_neg c3).symm.trans hf
    refine lv_aload_n C.1 C.2.1 dX11_wall_18 rfl (lv_at hl 0 rfl) ?_
    refine lv_iload_n C.1 C.2.1 dX11_wall_19 rfl (lv_at hl 1 rfl) ?_
    refine lv_iload_n C.1 C.2.1 dX11_wall_20 rfl (lv_at hl 2 rfl) ?_
    obtain ⟨q4, h5, hf⟩ := bd hf
    refine m_callV (As := [.int a1, .int a2]) (rest := []) C hW ha0 (cX11_isWall_ok  ha0 h5) mlX11_430 (by decide) rfl hl.1 rfl (Nat.le_of_ble_eq_true rfl) (Nat.le_of_ble_eq_true rfl) (Nat.le_of_ble_eq_true rfl) dX11_wall_21 (fun H locs hW => ?_)
    refine lv_if_eq (tgt := 31) C.1 C.2.1 dX11_wall_24 rfl (fun c6 => ?_) (fun c6 => ?_)
    · have hf := (if_pos c6).symm.trans hf
      refine lv_iconst C.1 C.2.1 dX11_wall_31 ic_0 ?_
      cases hf
      exact m_iret C hW dX11_wall_32
    · have hf := (if_neg c6).symm.trans hf
      refine lv_iconst C.1 C.2.1 dX11_wall_27 ic_1 ?_
      refine lv_goto (tgt := 32) C.1 C.2.1 dX11_wall_28 rfl ?_
      cases hf
      exact m_iret C hW dX11_wall_32
  · have hf := (if_pos c3).symm.trans hf
    refine lv_iconst C.1 C.2.1 dX11_wall_14 ic_m1 ?_
    refine lv_goto (tgt := 32) C.1 C.2.1 dX11_wall_15 rfl ?_
    cases hf
    exact m_iret C hW dX11_wall_32

def fX11_light_54   (S : MS) : Option (Int32 × MS) := some ((1 : Int32), S)
def fX11_light_32  (x0 : Nat) (x1 : Int32) (x2 : Int32) (y0 : Int32) (S : MS) : Option (Int32 × MS) := (if y0 = x2 then some ((0 : Int32), S) else (fX11_keepNow  x0 S).bind fun q2 => (if bnd (0 : Int32) (lnM (gR q2 x0 50)) = true then (if bnd (0 : Int32) (lnM (gR q2 x0 50)) = true then fX11_light_54   (pI q2 (gR q2 x0 50) ((0 : Int32).toNatClampNeg) ((gI q2 (gR q2 x0 50) (0 : Int32).toNatClampNeg) ^^^ ((1 : Int32) <<< (x1 &&& 31)))) else none) else none))
def fX11_light (a0 : Nat) (a1 : Int32) (a2 : Int32) (S : MS) : Option (Int32 × MS) := (fX11_isLamp  a0 a1 (pI S a0 0 (0 : Int32))).bind fun q7 => (if q7 = (0 : Int32) then some ((0 : Int32), pI S a0 0 (0 : Int32)) else (if bnd (0 : Int32) (lnM (gR (pI S a0 0 (0 : Int32)) a0 50)) = true then (if ((gI (pI S a0 0 (0 : Int32)) (gR (pI S a0 0 (0 : Int32)) a0 50) (0 : Int32).toNatClampNeg) >>> (a1 &&& 31)) &&& (1 : Int32) = (1 : Int32) then fX11_light_32  a0 a1 a2 (1 : Int32) (pI S a0 0 (0 : Int32)) else fX11_light_32  a0 a1 a2 (0 : Int32) (pI S a0 0 (0 : Int32))) else none))
set_option maxRecDepth 100000 in
theorem kX11_light_54 {p : Program} {l : Launch} {e : Env} {s : State} {m : MethodId} {av : Array Value} {below : List Frame} {meth : Method} {c : Code} {A : Nat → Prop} {G : Gv} {L : List Nat} {q : (Int32 × MS)}  (C : mC p s m av meth c cX11_light RX11 3 (some .boolean)) : ∀  (S : MS) (H : Heap) (locs : List Loc) (ls : Array Slot), mW G shM L S A s H locs → lv_has ls 3 [] → fX11_light_54   S = some q → W p l e (rmd (3)) s m av below meth c H locs 0 0 (MQ below (mQ G shM L q.2 (some (.int q.1)) A) av s 0 0 A) (F0 m 54 ls []) := by
  intro  S H locs ls  hW hl hf
  unfold fX11_light_54 at hf
  refine lv_iconst C.1 C.2.1 dX11_light_54 ic_1 ?_
  cases hf
  exact m_zret C hW rfl dX11_light_55

set_option maxRecDepth 100000 in
theorem kX11_light_32 {p : Program} {l : Launch} {e : Env} {s : State} {m : MethodId} {av : Array Value} {below : List Frame} {meth : Method} {c : Code} {A : Nat → Prop} {G : Gv} {L : List Nat} {q : (Int32 × MS)}  (C : mC p s m av meth c cX11_light RX11 3 (some .boolean)) : ∀ (x0 : Nat) (x1 : Int32) (x2 : Int32) (y0 : Int32) (S : MS) (H : Heap) (locs : List Loc) (ls : Array Slot), (x0 < shM.1 ∧ shM.2.1 x0 = 11) → mW G shM L S A s H locs → lv_has ls 3 [(0, .ref (ad L x0)), (1, .int x1), (2, .int x2)] → fX11_light_32  x0 x1 x2 y0 S = some q → W p l e (rmd (3)) s m av below meth c H locs 0 0 (MQ below (mQ G shM L q.2 (some (.int q.1)) A) av s 0 0 A) (F0 m 32 ls [.int y0]) := by
  intro x0 x1 x2 y0 S H locs ls hx0 hW hl hf
  unfold fX11_light_32 at hf
  refine lv_iload_n C.1 C.2.1 dX11_light_32 rfl (lv_at hl 2 rfl) ?_
  refine lv_icmp_ne (tgt := 38) C.1 C.2.1 dX11_light_33 rfl (fun c1 => ?_) (fun c1 => ?_)
  · have hf := (if_neg c1).symm.trans hf
    refine lv_aload_n C.1 C.2.1 dX11_light_38 rfl (lv_at hl 0 rfl) ?_
    obtain ⟨q2, h3, hf⟩ := bd hf
    refine m_callV (As := []) (rest := []) C hW hx0 (cX11_keepNow_ok  hx0 h3) mlX11_491 (by decide) rfl hl.1 rfl (Nat.le_of_ble_eq_true rfl) (Nat.le_of_ble_eq_true rfl) (Nat.le_of_ble_eq_true rfl) dX11_light_39 (fun H locs hW => ?_)
    refine lv_aload_n C.1 C.2.1 dX11_light_42 rfl (lv_at hl 0 rfl) ?_
    refine m_getr C hW hx0 flX11_114 (by decide) dX11_light_43 (fun hk4 => ?_)
    refine lv_iconst C.1 C.2.1 dX11_light_46 ic_0 ?_
    refine lv_dup2_11 C.1 C.2.1 dX11_light_47 rfl rfl ?_
    obtain ⟨hb5, hf⟩ := gd hf
    refine m_iald C hW hk4 hb5 dX11_light_48 ?_
    refine lv_iconst C.1 C.2.1 dX11_light_49 ic_1 ?_
    refine lv_iload_n C.1 C.2.1 dX11_light_50 rfl (lv_at hl 1 rfl) ?_
    refine lv_ishl C.1 C.2.1 dX11_light_51 ?_
    refine lv_ixor C.1 C.2.1 dX11_light_52 ?_
    obtain ⟨hb6, hf⟩ := gd hf
    refine m_iast C hW hk4 hb6 dX11_light_53 (fun H locs hW => ?_)
    exact kX11_light_54  C  _ _ _ _  hW (lv_sub hl [] rfl) hf
  · have hf := (if_pos c1).symm.trans hf
    refine lv_iconst C.1 C.2.1 dX11_light_36 ic_0 ?_
    cases hf
    exact m_zret C hW rfl dX11_light_37

set_option maxRecDepth 100000 in
theorem cX11_light_ok {l : Launch} {G : Gv} {L : List Nat} {S : MS} {a0 : Nat} {a1 : Int32} {a2 : Int32} {q : (Int32 × MS)} (ha0 : a0 < shM.1 ∧ shM.2.1 a0 = 11) (hf : fX11_light a0 a1 a2 S = some q) : Mt l yX11_light cX11_light 3 (some .boolean) (3) G shM L S [.ref (ad L a0), .int a1, .int a2] (some (.int q.1)) q.2 := by
  refine m_enter (lv := [(0, .ref (ad L a0)), (1, .int a1), (2, .int a2)]) (plainFor_of_name (by decide)) (Nat.le_of_ble_eq_true rfl) rfl ?_
  intro p e s m below meth c A ls C hW hl
  unfold fX11_light at hf
  refine lv_aload_n C.1 C.2.1 dX11_light_0 rfl (lv_at hl 0 rfl) ?_
  refine lv_iconst C.1 C.2.1 dX11_light_1 ic_0 ?_
  refine m_puti C hW ha0 fpX11_163 dX11_light_2 (fun H locs hW => ?_)
  refine lv_aload_n C.1 C.2.1 dX11_light_5 rfl (lv_at hl 0 rfl) ?_
  refine lv_iload_n C.1 C.2.1 dX11_light_6 rfl (lv_at hl 1 rfl) ?_
  obtain ⟨q7, h8, hf⟩ := bd hf
  refine m_callV (As := [.int a1]) (rest := []) C hW ha0 (cX11_isLamp_ok  ha0 h8) mlX11_481 (by decide) rfl hl.1 rfl (Nat.le_of_ble_eq_true rfl) (Nat.le_of_ble_eq_true rfl) (Nat.le_of_ble_eq_true rfl) dX11_light_7 (fun H locs hW => ?_)
  refine lv_if_eq (tgt := 36) C.1 C.2.1 dX11_light_10 rfl (fun c9 => ?_) (fun c9 => ?_)
  · have hf := (if_pos c9).symm.trans hf
    refine lv_iconst C.1 C.2.1 dX11_light_36 ic_0 ?_
    cases hf
    exact m_zret C hW rfl dX11_light_37
  · have hf := (if_neg c9).symm.trans hf
    refine lv_aload_n C.1 C.2.1 dX11_light_13 rfl (lv_at hl 0 rfl) ?_
    refine m_getr C hW ha0 flX11_114 (by decide) dX11_light_14 (fun hk10 => ?_)
    refine lv_iconst C.1 C.2.1 dX11_light_17 ic_0 ?_
    obtain ⟨hb11, hf⟩ := gd hf
    refine m_iald C hW hk10 hb11 dX11_light_18 ?_
    refine lv_iload_n C.1 C.2.1 dX11_light_19 rfl (lv_at hl 1 rfl) ?_
    refine lv_ishr C.1 C.2.1 dX11_light_20 ?_
    refine lv_iconst C.1 C.2.1 dX11_light_21 ic_1 ?_
    refine lv_iand C.1 C.2.1 dX11_light_22 ?_
    refine lv_iconst C.1 C.2.1 dX11_light_23 ic_1 ?_
    refine lv_icmp_ne (tgt := 31) C.1 C.2.1 dX11_light_24 rfl (fun c12 => ?_) (fun c12 => ?_)
    · have hf := (if_neg c12).symm.trans hf
      refine lv_iconst C.1 C.2.1 dX11_light_31 ic_0 ?_
      exact kX11_light_32  C a0 a1 a2 (0 : Int32) _ _ _ _ ha0 hW (lv_sub hl [0, 1, 2] rfl) hf
    · have hf := (if_pos c12).symm.trans hf
      refine lv_iconst C.1 C.2.1 dX11_light_27 ic_1 ?_
      refine lv_goto (tgt := 32) C.1 C.2.1 dX11_light_28 rfl ?_
      exact kX11_light_32  C a0 a1 a2 (1 : Int32) _ _ _ _ ha0 hW (lv_sub hl [0, 1, 2] rfl) hf

def fX11_again_46   (S : MS) : Option (Int32 × MS) := some ((1 : Int32), S)
def fX11_again (a0 : Nat) (a1 : Int32) (S : MS) : Option (Int32 × MS) := (fX11_isDoing  a0 a1 (pI S a0 0 (0 : Int32))).bind fun q1 => (if q1 = (0 : Int32) then some ((0 : Int32), pI S a0 0 (0 : Int32)) else (if bnd (0 : Int32) (lnM (gR (pI S a0 0 (0 : Int32)) a0 51)) = true then (if ((gI (pI S a0 0 (0 : Int32)) (gR (pI S a0 0 (0 : Int32)) a0 51) (0 : Int32).toNatClampNeg) >>> (a1 &&& 31)) &&& (1 : Int32) = (0 : Int32) then some ((0 : Int32), pI S a0 0 (0 : Int32)) else (fX11_keepNow  a0 (pI S a0 0 (0 : Int32))).bind fun q7 => (if bnd (0 : Int32) (lnM (gR q7 a0 51)) = true then (if bnd (0 : Int32) (lnM (gR q7 a0 51)) = true then fX11_again_46   (pI q7 (gR q7 a0 51) ((0 : Int32).toNatClampNeg) ((gI q7 (gR q7 a0 51) (0 : Int32).toNatClampNeg) &&& (((1 : Int32) <<< (a1 &&& 31)) ^^^ (-1 : Int32)))) else none) else none)) else none))
set_option maxRecDepth 100000 in
theorem kX11_again_46 {p : Program} {l : Launch} {e : Env} {s : State} {m : MethodId} {av : Array Value} {below : List Frame} {meth : Method} {c : Code} {A : Nat → Prop} {G : Gv} {L : List Nat} {q : (Int32 × MS)}  (C : mC p s m av meth c cX11_again RX11 2 (some .boolean)) : ∀  (S : MS) (H : Heap) (locs : List Loc) (ls : Array Slot), mW G shM L S A s H locs → lv_has ls 2 [] → fX11_again_46   S = some q → W p l e (rmd (3)) s m av below meth c H locs 0 0 (MQ below (mQ G shM L q.2 (some (.int q.1)) A) av s 0 0 A) (F0 m 46 ls []) := by
  intro  S H locs ls  hW hl hf
  unfold fX11_again_46 at hf
  refine lv_iconst C.1 C.2.1 dX11_again_46 ic_1 ?_
  cases hf
  exact m_zret C hW rfl dX11_again_47

set_option maxRecDepth 100000 in
theorem cX11_again_ok {l : Launch} {G : Gv} {L : List Nat} {S : MS} {a0 : Nat} {a1 : Int32} {q : (Int32 × MS)} (ha0 : a0 < shM.1 ∧ shM.2.1 a0 = 11) (hf : fX11_again a0 a1 S = some q) : Mt l yX11_again cX11_again 2 (some .boolean) (3) G shM L S [.ref (ad L a0), .int a1] (some (.int q.1)) q.2 := by
  refine m_enter (lv := [(0, .ref (ad L a0)), (1, .int a1)]) (plainFor_of_name (by decide)) (Nat.le_of_ble_eq_true rfl) rfl ?_
  intro p e s m below meth c A ls C hW hl
  unfold fX11_again at hf
  refine lv_aload_n C.1 C.2.1 dX11_again_0 rfl (lv_at hl 0 rfl) ?_
  refine lv_iconst C.1 C.2.1 dX11_again_1 ic_0 ?_
  refine m_puti C hW ha0 fpX11_163 dX11_again_2 (fun H locs hW => ?_)
  refine lv_aload_n C.1 C.2.1 dX11_again_5 rfl (lv_at hl 0 rfl) ?_
  refine lv_iload_n C.1 C.2.1 dX11_again_6 rfl (lv_at hl 1 rfl) ?_
  obtain ⟨q1, h2, hf⟩ := bd hf
  refine m_callV (As := [.int a1]) (rest := []) C hW ha0 (cX11_isDoing_ok  ha0 h2) mlX11_472 (by decide) rfl hl.1 rfl (Nat.le_of_ble_eq_true rfl) (Nat.le_of_ble_eq_true rfl) (Nat.le_of_ble_eq_true rfl) dX11_again_7 (fun H locs hW => ?_)
  refine lv_if_eq (tgt := 26) C.1 C.2.1 dX11_again_10 rfl (fun c3 => ?_) (fun c3 => ?_)
  · have hf := (if_pos c3).symm.trans hf
    refine lv_iconst C.1 C.2.1 dX11_again_26 ic_0 ?_
    cases hf
    exact m_zret C hW rfl dX11_again_27
  · have hf := (if_neg c3).symm.trans hf
    refine lv_aload_n C.1 C.2.1 dX11_again_13 rfl (lv_at hl 0 rfl) ?_
    refine m_getr C hW ha0 flX11_117 (by decide) dX11_again_14 (fun hk4 => ?_)
    refine lv_iconst C.1 C.2.1 dX11_again_17 ic_0 ?_
    obtain ⟨hb5, hf⟩ := gd hf
    refine m_iald C hW hk4 hb5 dX11_again_18 ?_
    refine lv_iload_n C.1 C.2.1 dX11_again_19 rfl (lv_at hl 1 rfl) ?_
    refine lv_ishr C.1 C.2.1 dX11_again_20 ?_
    refine lv_iconst C.1 C.2.1 dX11_again_21 ic_1 ?_
    refine lv_iand C.1 C.2.1 dX11_again_22 ?_
    refine lv_if_ne (tgt := 28) C.1 C.2.1 dX11_again_23 rfl (fun c6 => ?_) (fun c6 => ?_)
    · have hf := (if_neg c6).symm.trans hf
      refine lv_aload_n C.1 C.2.1 dX11_again_28 rfl (lv_at hl 0 rfl) ?_
      obtain ⟨q7, h8, hf⟩ := bd hf
      refine m_callV (As := []) (rest := []) C hW ha0 (cX11_keepNow_ok  ha0 h8) mlX11_491 (by decide) rfl hl.1 rfl (Nat.le_of_ble_eq_true rfl) (Nat.le_of_ble_eq_true rfl) (Nat.le_of_ble_eq_true rfl) dX11_again_29 (fun H locs hW => ?_)
      refine lv_aload_n C.1 C.2.1 dX11_again_32 rfl (lv_at hl 0 rfl) ?_
      refine m_getr C hW ha0 flX11_117 (by decide) dX11_again_33 (fun hk9 => ?_)
      refine lv_iconst C.1 C.2.1 dX11_again_36 ic_0 ?_
      refine lv_dup2_11 C.1 C.2.1 dX11_again_37 rfl rfl ?_
      obtain ⟨hb10, hf⟩ := gd hf
      refine m_iald C hW hk9 hb10 dX11_again_38 ?_
      refine lv_iconst C.1 C.2.1 dX11_again_39 ic_1 ?_
      refine lv_iload_n C.1 C.2.1 dX11_again_40 rfl (lv_at hl 1 rfl) ?_
      refine lv_ishl C.1 C.2.1 dX11_again_41 ?_
      refine lv_iconst C.1 C.2.1 dX11_again_42 ic_m1 ?_
      refine lv_ixor C.1 C.2.1 dX11_again_43 ?_
      refine lv_iand C.1 C.2.1 dX11_again_44 ?_
      obtain ⟨hb11, hf⟩ := gd hf
      refine m_iast C hW hk9 hb11 dX11_again_45 (fun H locs hW => ?_)
      exact kX11_again_46  C  _ _ _ _  hW (lv_sub hl [] rfl) hf
    · have hf := (if_pos c6).symm.trans hf
      refine lv_iconst C.1 C.2.1 dX11_again_26 ic_0 ?_
      cases hf
      exact m_zret C hW rfl dX11_again_27

def fX11_isNearer_86   (S : MS) : Option (Int32 × MS) := some ((1 : Int32), S)
def fX11_isNearer (a0 : Nat) (a1 : Int32) (a2 : Int32) (S : MS) : Option (Int32 × MS) := (fX11_rowBy  a2 S).bind fun q1 => (fX11_columnBy  a2 S).bind fun q3 => (fX11_isCell  a0 ((a1 / (8 : Int32)) + q1) ((a1 - (a1 / (8 : Int32)) * (8 : Int32)) + q3) S).bind fun q5 => (if q5 = (0 : Int32) then some ((0 : Int32), S) else (fX11_isWall  a0 ((a1 / (8 : Int32)) + q1) ((a1 - (a1 / (8 : Int32)) * (8 : Int32)) + q3) S).bind fun q8 => (if q8 = (0 : Int32) then (if bnd a1 (lnM (gR S a0 62)) = true then (if bnd (((8 : Int32) * ((a1 / (8 : Int32)) + q1)) + ((a1 - (a1 / (8 : Int32)) * (8 : Int32)) + q3)) (lnM (gR S a0 62)) = true then (if ((gI S (gR S a0 62) a1.toNatClampNeg) + (1 : Int32)) < (gI S (gR S a0 62) (((8 : Int32) * ((a1 / (8 : Int32)) + q1)) + ((a1 - (a1 / (8 : Int32)) * (8 : Int32)) + q3)).toNatClampNeg) then (if bnd a1 (lnM (gR S a0 62)) = true then (if bnd (((8 : Int32) * ((a1 / (8 : Int32)) + q1)) + ((a1 - (a1 / (8 : Int32)) * (8 : Int32)) + q3)) (lnM (gR S a0 62)) = true then fX11_isNearer_86   (pI S (gR S a0 62) ((((8 : Int32) * ((a1 / (8 : Int32)) + q1)) + ((a1 - (a1 / (8 : Int32)) * (8 : Int32)) + q3)).toNatClampNeg) ((gI S (gR S a0 62) a1.toNatClampNeg) + (1 : Int32))) else none) else none) else some ((0 : Int32), S)) else none) else none) else some ((0 : Int32), S)))
set_option maxRecDepth 100000 in
theorem kX11_isNearer_86 {p : Program} {l : Launch} {e : Env} {s : State} {m : MethodId} {av : Array Value} {below : List Frame} {meth : Method} {c : Code} {A : Nat → Prop} {G : Gv} {L : List Nat} {q : (Int32 × MS)}  (C : mC p s m av meth c cX11_isNearer RX11 5 (some .boolean)) : ∀  (S : MS) (H : Heap) (locs : List Loc) (ls : Array Slot), mW G shM L S A s H locs → lv_has ls 5 [] → fX11_isNearer_86   S = some q → W p l e (rmd (3)) s m av below meth c H locs 0 0 (MQ below (mQ G shM L q.2 (some (.int q.1)) A) av s 0 0 A) (F0 m 86 ls []) := by
  intro  S H locs ls  hW hl hf
  unfold fX11_isNearer_86 at hf
  refine lv_iconst C.1 C.2.1 dX11_isNearer_86 ic_1 ?_
  cases hf
  exact m_zret C hW rfl dX11_isNearer_87

set_option maxRecDepth 100000 in
theorem cX11_isNearer_ok {l : Launch} {G : Gv} {L : List Nat} {S : MS} {a0 : Nat} {a1 : Int32} {a2 : Int32} {q : (Int32 × MS)} (ha0 : a0 < shM.1 ∧ shM.2.1 a0 = 11) (hf : fX11_isNearer a0 a1 a2 S = some q) : Mt l yX11_isNearer cX11_isNearer 5 (some .boolean) (3) G shM L S [.ref (ad L a0), .int a1, .int a2] (some (.int q.1)) q.2 := by
  refine m_enter (lv := [(0, .ref (ad L a0)), (1, .int a1), (2, .int a2)]) (plainFor_of_name (by decide)) (Nat.le_of_ble_eq_true rfl) rfl ?_
  intro p e s m below meth c A ls C hW hl
  unfold fX11_isNearer at hf
  refine lv_iload_n C.1 C.2.1 dX11_isNearer_0 rfl (lv_at hl 1 rfl) ?_
  refine lv_bipush C.1 C.2.1 dX11_isNearer_1 bp_8 ?_
  refine lv_idiv C.1 C.2.1 dX11_isNearer_3 (by decide) ?_
  refine lv_iload_n C.1 C.2.1 dX11_isNearer_4 rfl (lv_at hl 2 rfl) ?_
  obtain ⟨q1, h2, hf⟩ := bd hf
  refine m_callS (As := [.int a2]) (rest := [.int (a1 / (8 : Int32))]) C hW (cX11_rowBy_ok   h2) mlX11_390 rfl hl.1 rfl (Nat.le_of_ble_eq_true rfl) (Nat.le_of_ble_eq_true rfl) (Nat.le_of_ble_eq_true rfl) dX11_isNearer_5 (fun H locs hW => ?_)
  refine lv_iadd C.1 C.2.1 dX11_isNearer_8 ?_
  refine lv_istore_n (lv' := [(3, .int ((a1 / (8 : Int32)) + q1)), (0, .ref (ad L a0)), (1, .int a1), (2, .int a2)]) C.1 C.2.1 dX11_isNearer_9 rfl hl (by decide) rfl (fun ls hl => ?_)
  refine lv_iload_n C.1 C.2.1 dX11_isNearer_10 rfl (lv_at hl 2 rfl) ?_
  refine lv_bipush C.1 C.2.1 dX11_isNearer_11 bp_8 ?_
  refine lv_irem C.1 C.2.1 dX11_isNearer_13 (by decide) ?_
  refine lv_iload_n C.1 C.2.1 dX11_isNearer_14 rfl (lv_at hl 3 rfl) ?_
  obtain ⟨q3, h4, hf⟩ := bd hf
  refine m_callS (As := [.int a2]) (rest := [.int (a1 - (a1 / (8 : Int32)) * (8 : Int32))]) C hW (cX11_columnBy_ok   h4) mlX11_396 rfl hl.1 rfl (Nat.le_of_ble_eq_true rfl) (Nat.le_of_ble_eq_true rfl) (Nat.le_of_ble_eq_true rfl) dX11_isNearer_15 (fun H locs hW => ?_)
  refine lv_iadd C.1 C.2.1 dX11_isNearer_18 ?_
  refine lv_istore (lv' := [(4, .int ((a1 - (a1 / (8 : Int32)) * (8 : Int32)) + q3)), (3, .int ((a1 / (8 : Int32)) + q1)), (0, .ref (ad L a0)), (1, .int a1), (2, .int a2)]) C.1 C.2.1 dX11_isNearer_19 hl (by decide) rfl (fun ls hl => ?_)
  refine lv_aload_n C.1 C.2.1 dX11_isNearer_21 rfl (lv_at hl 2 rfl) ?_
  refine lv_iload_n C.1 C.2.1 dX11_isNearer_22 rfl (lv_at hl 1 rfl) ?_
  refine lv_iload C.1 C.2.1 dX11_isNearer_23 (lv_at hl 0 rfl) ?_
  obtain ⟨q5, h6, hf⟩ := bd hf
  refine m_callV (As := [.int ((a1 / (8 : Int32)) + q1), .int ((a1 - (a1 / (8 : Int32)) * (8 : Int32)) + q3)]) (rest := []) C hW ha0 (cX11_isCell_ok  ha0 h6) mlX11_399 (by decide) rfl hl.1 rfl (Nat.le_of_ble_eq_true rfl) (Nat.le_of_ble_eq_true rfl) (Nat.le_of_ble_eq_true rfl) dX11_isNearer_25 (fun H locs hW => ?_)
  refine lv_if_eq (tgt := 64) C.1 C.2.1 dX11_isNearer_28 rfl (fun c7 => ?_) (fun c7 => ?_)
  · have hf := (if_pos c7).symm.trans hf
    refine lv_iconst C.1 C.2.1 dX11_isNearer_64 ic_0 ?_
    cases hf
    exact m_zret C hW rfl dX11_isNearer_65
  · have hf := (if_neg c7).symm.trans hf
    refine lv_aload_n C.1 C.2.1 dX11_isNearer_31 rfl (lv_at hl 2 rfl) ?_
    refine lv_iload_n C.1 C.2.1 dX11_isNearer_32 rfl (lv_at hl 1 rfl) ?_
    refine lv_iload C.1 C.2.1 dX11_isNearer_33 (lv_at hl 0 rfl) ?_
    obtain ⟨q8, h9, hf⟩ := bd hf
    refine m_callV (As := [.int ((a1 / (8 : Int32)) + q1), .int ((a1 - (a1 / (8 : Int32)) * (8 : Int32)) + q3)]) (rest := []) C hW ha0 (cX11_isWall_ok  ha0 h9) mlX11_430 (by decide) rfl hl.1 rfl (Nat.le_of_ble_eq_true rfl) (Nat.le_of_ble_eq_true rfl) (Nat.le_of_ble_eq_true rfl) dX11_isNearer_35 (fun H locs hW => ?_)
    refine lv_if_ne (tgt := 64) C.1 C.2.1 dX11_isNearer_38 rfl (fun c10 => ?_) (fun c10 => ?_)
    · have hf := (if_neg c10).symm.trans hf
      refine lv_iconst C.1 C.2.1 dX11_isNearer_64 ic_0 ?_
      cases hf
      exact m_zret C hW rfl dX11_isNearer_65
    · have hf := (if_pos c10).symm.trans hf
      refine lv_aload_n C.1 C.2.1 dX11_isNearer_41 rfl (lv_at hl 2 rfl) ?_
      refine m_getr C hW ha0 flX11_129 (by decide) dX11_isNearer_42 (fun hk11 => ?_)
      refine lv_iload_n C.1 C.2.1 dX11_isNearer_45 rfl (lv_at hl 3 rfl) ?_
      obtain ⟨hb12, hf⟩ := gd hf
      refine m_iald C hW hk11 hb12 dX11_isNearer_46 ?_
      refine lv_iconst C.1 C.2.1 dX11_isNearer_47 ic_1 ?_
      refine lv_iadd C.1 C.2.1 dX11_isNearer_48 ?_
      refine lv_aload_n C.1 C.2.1 dX11_isNearer_49 rfl (lv_at hl 2 rfl) ?_
      refine m_getr C hW ha0 flX11_129 (by decide) dX11_isNearer_50 (fun hk13 => ?_)
      refine lv_bipush C.1 C.2.1 dX11_isNearer_53 bp_8 ?_
      refine lv_iload_n C.1 C.2.1 dX11_isNearer_55 rfl (lv_at hl 1 rfl) ?_
      refine lv_imul C.1 C.2.1 dX11_isNearer_56 ?_
      refine lv_iload C.1 C.2.1 dX11_isNearer_57 (lv_at hl 0 rfl) ?_
      refine lv_iadd C.1 C.2.1 dX11_isNearer_59 ?_
      obtain ⟨hb14, hf⟩ := gd hf
      refine m_iald C hW hk13 hb14 dX11_isNearer_60 ?_
      refine lv_icmp_lt (tgt := 66) C.1 C.2.1 dX11_isNearer_61 rfl (fun c15 => ?_) (fun c15 => ?_)
      · have hf := (if_pos c15).symm.trans hf
        refine lv_aload_n C.1 C.2.1 dX11_isNearer_66 rfl (lv_at hl 2 rfl) ?_
        refine m_getr C hW ha0 flX11_129 (by decide) dX11_isNearer_67 (fun hk16 => ?_)
        refine lv_bipush C.1 C.2.1 dX11_isNearer_70 bp_8 ?_
        refine lv_iload_n C.1 C.2.1 dX11_isNearer_72 rfl (lv_at hl 1 rfl) ?_
        refine lv_imul C.1 C.2.1 dX11_isNearer_73 ?_
        refine lv_iload C.1 C.2.1 dX11_isNearer_74 (lv_at hl 0 rfl) ?_
        refine lv_iadd C.1 C.2.1 dX11_isNearer_76 ?_
        refine lv_aload_n C.1 C.2.1 dX11_isNearer_77 rfl (lv_at hl 2 rfl) ?_
        refine m_getr C hW ha0 flX11_129 (by decide) dX11_isNearer_78 (fun hk17 => ?_)
        refine lv_iload_n C.1 C.2.1 dX11_isNearer_81 rfl (lv_at hl 3 rfl) ?_
        obtain ⟨hb18, hf⟩ := gd hf
        refine m_iald C hW hk17 hb18 dX11_isNearer_82 ?_
        refine lv_iconst C.1 C.2.1 dX11_isNearer_83 ic_1 ?_
        refine lv_iadd C.1 C.2.1 dX11_isNearer_84 ?_
        obtain ⟨hb19, hf⟩ := gd hf
        refine m_iast C hW hk16 hb19 dX11_isNearer_85 (fun H locs hW => ?_)
        exact kX11_isNearer_86  C  _ _ _ _  hW (lv_sub hl [] rfl) hf
      · have hf := (if_neg c15).symm.trans hf
        refine lv_iconst C.1 C.2.1 dX11_isNearer_64 ic_0 ?_
        cases hf
        exact m_zret C hW rfl dX11_isNearer_65

def fX11_restOf_48 (K6 : Nat → Int32 → Int32 → Int32 → Int32 → Int32 → MS → Option Int32) (x0 : Nat) (x1 : Int32) (x2 : Int32) (x3 : Int32) (x4 : Int32) (x5 : Int32) (S : MS) : Option Int32 := K6 x0 x1 x2 x3 x4 (x5 + (1 : Int32)) S
def fX11_restOf_6  : Nat → Nat → Int32 → Int32 → Int32 → Int32 → Int32 → MS → Option Int32
  | 0, _, _, _, _, _, _, _ => none
  | n + 1, x0, x1, x2, x3, x4, x5, S => (if (4 : Int32) ≤ x5 then (if x3 = (-1 : Int32) then some x4 else some (-2 : Int32)) else (fX11_isRest  x0 x1 x2 x5 S).bind fun q3 => (if q3 = (0 : Int32) then fX11_restOf_48 (fX11_restOf_6  n) x0 x1 x2 x3 x4 x5 S else (if x4 = x3 then some (((10 : Int32) * (x5 / (2 : Int32))) + (x5 - (x5 / (2 : Int32)) * (2 : Int32))) else fX11_restOf_48 (fX11_restOf_6  n) x0 x1 x2 x3 (x4 + (1 : Int32)) x5 S)))
def fX11_restOf (a0 : Nat) (a1 : Int32) (a2 : Int32) (a3 : Int32) (S : MS) : Option Int32 := fX11_restOf_6  1000 a0 a1 a2 a3 (0 : Int32) (0 : Int32) S
set_option maxRecDepth 100000 in
theorem kX11_restOf_48 {p : Program} {l : Launch} {e : Env} {s : State} {m : MethodId} {av : Array Value} {below : List Frame} {meth : Method} {c : Code} {A : Nat → Prop} {G : Gv} {L : List Nat} {S : MS} {q : Int32} {K6 : Nat → Int32 → Int32 → Int32 → Int32 → Int32 → MS → Option Int32} (hK6 : ∀ (x0 : Nat) (x1 : Int32) (x2 : Int32) (x3 : Int32) (x4 : Int32) (x5 : Int32) (H : Heap) (locs : List Loc) (ls : Array Slot), (x0 < shM.1 ∧ shM.2.1 x0 = 11) → mW G shM L S A s H locs → lv_has ls 6 [(0, .ref (ad L x0)), (1, .int x1), (2, .int x2), (3, .int x3), (4, .int x4), (5, .int x5)] → K6 x0 x1 x2 x3 x4 x5 S = some q → W p l e (rmd (3)) s m av below meth c H locs 0 0 (MQ below (mQ G shM L S (some (.int q)) A) av s 0 0 A) (F0 m 6 ls [])) (C : mC p s m av meth c cX11_restOf RX11 6 (some .int)) : ∀ (x0 : Nat) (x1 : Int32) (x2 : Int32) (x3 : Int32) (x4 : Int32) (x5 : Int32) (H : Heap) (locs : List Loc) (ls : Array Slot), (x0 < shM.1 ∧ shM.2.1 x0 = 11) → mW G shM L S A s H locs → lv_has ls 6 [(0, .ref (ad L x0)), (1, .int x1), (2, .int x2), (3, .int x3), (4, .int x4), (5, .int x5)] → fX11_restOf_48 K6 x0 x1 x2 x3 x4 x5 S = some q → W p l e (rmd (3)) s m av below meth c H locs 0 0 (MQ below (mQ G shM L S (some (.int q)) A) av s 0 0 A) (F0 m 48 ls []) := by
  intro x0 x1 x2 x3 x4 x5 H locs ls hx0 hW hl hf
  unfold fX11_restOf_48 at hf
  refine lv_iinc (v := x5 + (1 : Int32)) (lv' := [(5, .int (x5 + (1 : Int32))), (0, .ref (ad L x0)), (1, .int x1), (2, .int x2), (3, .int x3), (4, .int x4)]) C.1 C.2.1 dX11_restOf_48 hl (k := 5) rfl (congrArg (fun z => x5 + z) ic_1) (by decide) rfl (fun ls hl => ?_)
  refine lv_goto (tgt := 6) C.1 C.2.1 dX11_restOf_51 rfl ?_
  exact hK6 x0 x1 x2 x3 x4 (x5 + (1 : Int32)) _ _ _ hx0 hW (lv_sub hl [1, 2, 3, 4, 5, 0] rfl) hf

set_option maxRecDepth 100000 in
theorem kX11_restOf_6 {p : Program} {l : Launch} {e : Env} {s : State} {m : MethodId} {av : Array Value} {below : List Frame} {meth : Method} {c : Code} {A : Nat → Prop} {G : Gv} {L : List Nat} {S : MS} {q : Int32}  (C : mC p s m av meth c cX11_restOf RX11 6 (some .int)) : ∀ (n : Nat) (x0 : Nat) (x1 : Int32) (x2 : Int32) (x3 : Int32) (x4 : Int32) (x5 : Int32) (H : Heap) (locs : List Loc) (ls : Array Slot), (x0 < shM.1 ∧ shM.2.1 x0 = 11) → mW G shM L S A s H locs → lv_has ls 6 [(0, .ref (ad L x0)), (1, .int x1), (2, .int x2), (3, .int x3), (4, .int x4), (5, .int x5)] → fX11_restOf_6  n x0 x1 x2 x3 x4 x5 S = some q → W p l e (rmd (3)) s m av below meth c H locs 0 0 (MQ below (mQ G shM L S (some (.int q)) A) av s 0 0 A) (F0 m 6 ls []) := by
  intro n
  induction n with
  | zero =>
    intro x0 x1 x2 x3 x4 x5 H locs ls hx0 hW hl hf
    rw [fX11_restOf_6] at hf
    cases hf
  | succ n ih =>
    intro x0 x1 x2 x3 x4 x5 H locs ls hx0 hW hl hf
    rw [fX11_restOf_6] at hf
    refine lv_iload C.1 C.2.1 dX11_restOf_6 (lv_at hl 5 rfl) ?_
    refine lv_iconst C.1 C.2.1 dX11_restOf_8 ic_4 ?_
    refine lv_icmp_ge (tgt := 54) C.1 C.2.1 dX11_restOf_9 rfl (fun c1 => ?_) (fun c1 => ?_)
    · have hf := (if_pos c1).symm.trans hf
      refine lv_iload_n C.1 C.2.1 dX11_restOf_54 rfl (lv_at hl 3 rfl) ?_
      refine lv_iconst C.1 C.2.1 dX11_restOf_55 ic_m1 ?_
      refine lv_icmp_ne (tgt := 64) C.1 C.2.1 dX11_restOf_56 rfl (fun c2 => ?_) (fun c2 => ?_)
      · have hf := (if_neg c2).symm.trans hf
        refine lv_bipush C.1 C.2.1 dX11_restOf_64 bp_m2 ?_
        cases hf
        exact m_iret C hW dX11_restOf_66
      · have hf := (if_pos c2).symm.trans hf
        refine lv_iload C.1 C.2.1 dX11_restOf_59 (lv_at hl 4 rfl) ?_
        refine lv_goto (tgt := 66) C.1 C.2.1 dX11_restOf_61 rfl ?_
        cases hf
        exact m_iret C hW dX11_restOf_66
    · have hf := (if_neg c1).symm.trans hf
      refine lv_aload_n C.1 C.2.1 dX11_restOf_12 rfl (lv_at hl 0 rfl) ?_
      refine lv_iload_n C.1 C.2.1 dX11_restOf_13 rfl (lv_at hl 1 rfl) ?_
      refine lv_iload_n C.1 C.2.1 dX11_restOf_14 rfl (lv_at hl 2 rfl) ?_
      refine lv_iload C.1 C.2.1 dX11_restOf_15 (lv_at hl 5 rfl) ?_
      obtain ⟨q3, h4, hf⟩ := bd hf
      refine m_callV (As := [.int x1, .int x2, .int x5]) (rest := []) C hW hx0 (cX11_isRest_ok  hx0 h4) mlX11_513 (by decide) rfl hl.1 rfl (Nat.le_of_ble_eq_true rfl) (Nat.le_of_ble_eq_true rfl) (Nat.le_of_ble_eq_true rfl) dX11_restOf_17 (fun H locs hW => ?_)
      refine lv_if_ne (tgt := 26) C.1 C.2.1 dX11_restOf_20 rfl (fun c5 => ?_) (fun c5 => ?_)
      · have hf := (if_neg c5).symm.trans hf
        refine lv_iload C.1 C.2.1 dX11_restOf_26 (lv_at hl 4 rfl) ?_
        refine lv_iload_n C.1 C.2.1 dX11_restOf_28 rfl (lv_at hl 3 rfl) ?_
        refine lv_icmp_ne (tgt := 45) C.1 C.2.1 dX11_restOf_29 rfl (fun c6 => ?_) (fun c6 => ?_)
        · have hf := (if_neg c6).symm.trans hf
          refine lv_iinc (v := x4 + (1 : Int32)) (lv' := [(4, .int (x4 + (1 : Int32))), (0, .ref (ad L x0)), (1, .int x1), (2, .int x2), (3, .int x3), (5, .int x5)]) C.1 C.2.1 dX11_restOf_45 hl (k := 4) rfl (congrArg (fun z => x4 + z) ic_1) (by decide) rfl (fun ls hl => ?_)
          exact kX11_restOf_48 ih C x0 x1 x2 x3 (x4 + (1 : Int32)) x5 _ _ _ hx0 hW (lv_sub hl [1, 2, 3, 4, 0, 5] rfl) hf
        · have hf := (if_pos c6).symm.trans hf
          refine lv_bipush C.1 C.2.1 dX11_restOf_32 bp_10 ?_
          refine lv_iload C.1 C.2.1 dX11_restOf_34 (lv_at hl 5 rfl) ?_
          refine lv_iconst C.1 C.2.1 dX11_restOf_36 ic_2 ?_
          refine lv_idiv C.1 C.2.1 dX11_restOf_37 (by decide) ?_
          refine lv_imul C.1 C.2.1 dX11_restOf_38 ?_
          refine lv_iload C.1 C.2.1 dX11_restOf_39 (lv_at hl 5 rfl) ?_
          refine lv_iconst C.1 C.2.1 dX11_restOf_41 ic_2 ?_
          refine lv_irem C.1 C.2.1 dX11_restOf_42 (by decide) ?_
          refine lv_iadd C.1 C.2.1 dX11_restOf_43 ?_
          cases hf
          exact m_iret C hW dX11_restOf_44
      · have hf := (if_pos c5).symm.trans hf
        refine lv_goto (tgt := 48) C.1 C.2.1 dX11_restOf_23 rfl ?_
        exact kX11_restOf_48 ih C x0 x1 x2 x3 x4 x5 _ _ _ hx0 hW (lv_sub hl [0, 1, 2, 3, 4, 5] rfl) hf

set_option maxRecDepth 100000 in
theorem cX11_restOf_ok {l : Launch} {G : Gv} {L : List Nat} {S : MS} {a0 : Nat} {a1 : Int32} {a2 : Int32} {a3 : Int32} {q : Int32} (ha0 : a0 < shM.1 ∧ shM.2.1 a0 = 11) (hf : fX11_restOf a0 a1 a2 a3 S = some q) : Mt l yX11_restOf cX11_restOf 6 (some .int) (3) G shM L S [.ref (ad L a0), .int a1, .int a2, .int a3] (some (.int q)) S := by
  refine m_enter (lv := [(0, .ref (ad L a0)), (1, .int a1), (2, .int a2), (3, .int a3)]) (plainFor_of_name (by decide)) (Nat.le_of_ble_eq_true rfl) rfl ?_
  intro p e s m below meth c A ls C hW hl
  unfold fX11_restOf at hf
  refine lv_iconst C.1 C.2.1 dX11_restOf_0 ic_0 ?_
  refine lv_istore (lv' := [(4, .int (0 : Int32)), (0, .ref (ad L a0)), (1, .int a1), (2, .int a2), (3, .int a3)]) C.1 C.2.1 dX11_restOf_1 hl (by decide) rfl (fun ls hl => ?_)
  refine lv_iconst C.1 C.2.1 dX11_restOf_3 ic_0 ?_
  refine lv_istore (lv' := [(5, .int (0 : Int32)), (4, .int (0 : Int32)), (0, .ref (ad L a0)), (1, .int a1), (2, .int a2), (3, .int a3)]) C.1 C.2.1 dX11_restOf_4 hl (by decide) rfl (fun ls hl => ?_)
  exact kX11_restOf_6  C 1000 a0 a1 a2 a3 (0 : Int32) (0 : Int32) _ _ _ ha0 hW (lv_sub hl [2, 3, 4, 5, 1, 0] rfl) hf

