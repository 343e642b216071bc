def fX11_thrown (a0 : Nat) (S : MS) : Option Int32 := some (gI S a0 0)
set_option maxRecDepth 100000 in
theorem cX11_thrown_ok {l : Launch} {G : Gv} {L : List Nat} {S : MS} {a0 : Nat} {q : Int32} (ha0 : a0 < shM.1 ∧ shM.2.1 a0 = 11) (hf : fX11_thrown a0 S = some q) : Mt l yX11_thrown cX11_thrown 1 (some .int) (1) G shM L S [.ref (ad L a0)] (some (.int q)) S := by
  refine m_enter (lv := [(0, .ref (ad L a0))]) (plainFor_of_name (by decide)) (Nat.le_of_ble_eq_true rfl) rfl ?_
  intro p e s m below meth c A ls C hW hl
  unfold fX11_thrown at hf
  refine lv_aload_n C.1 C.2.1 dX11_thrown_0 rfl (lv_at hl 0 rfl) ?_
  refine m_geti C hW ha0 flX11_163 dX11_thrown_1 ?_
  cases hf
  exact m_iret C hW dX11_thrown_4

def fX11_feed_104 (K20 : Nat → Int32 → Int32 → Int32 → Int32 → Int32 → Int32 → MS → Option (Int32 × MS)) (x0 : Nat) (x1 : Int32) (x2 : Int32) (x3 : Int32) (x4 : Int32) (x5 : Int32) (x6 : Int32) (S : MS) : Option (Int32 × MS) := K20 x0 x1 x2 x3 x4 x5 (x6 + (1 : Int32)) S
def fX11_feed_73 (K20 : Nat → Int32 → Int32 → Int32 → Int32 → Int32 → Int32 → MS → Option (Int32 × MS)) (x0 : Nat) (x1 : Int32) (x2 : Int32) (x3 : Int32) (x4 : Int32) (x5 : Int32) (x6 : Int32) (y0 : Int32) (S : MS) : Option (Int32 × MS) := (if bnd ((gI S x0 2) + x6) (lnM (gR S x0 1)) = true then fX11_feed_104 K20 x0 x1 x2 x3 x4 x5 x6 (pI S (gR S x0 1) (((gI S x0 2) + x6).toNatClampNeg) ((y0 >>> (((24 : Int32) - ((8 : Int32) * (x6 - (x6 / (4 : Int32)) * (4 : Int32)))) &&& 31)) &&& (255 : Int32))) else none)
def fX11_feed_20  : Nat → Nat → Int32 → Int32 → Int32 → Int32 → Int32 → Int32 → MS → Option (Int32 × MS)
  | 0, _, _, _, _, _, _, _, _ => none
  | n + 1, x0, x1, x2, x3, x4, x5, x6, S => (if (20 : Int32) ≤ x6 then some (gI (pI S x0 2 ((gI S x0 2) + (20 : Int32))) x0 2, pI S x0 2 ((gI S x0 2) + (20 : Int32))) else (if (4 : Int32) ≤ x6 then (if (8 : Int32) ≤ x6 then (if (12 : Int32) ≤ x6 then (if (16 : Int32) ≤ x6 then fX11_feed_73 (fX11_feed_20  n) x0 x1 x2 x3 x4 x5 x6 x5 S else fX11_feed_73 (fX11_feed_20  n) x0 x1 x2 x3 x4 x5 x6 x4 S) else fX11_feed_73 (fX11_feed_20  n) x0 x1 x2 x3 x4 x5 x6 x3 S) else fX11_feed_73 (fX11_feed_20  n) x0 x1 x2 x3 x4 x5 x6 x2 S) else fX11_feed_73 (fX11_feed_20  n) x0 x1 x2 x3 x4 x5 x6 x1 S))
def fX11_feed (a0 : Nat) (a1 : Int32) (a2 : Int32) (a3 : Int32) (a4 : Int32) (a5 : Int32) (S : MS) : Option (Int32 × MS) := (if (gI (pI S a0 0 (0 : Int32)) a0 2) ≤ (680 : Int32) then fX11_feed_20  1000 a0 a1 a2 a3 a4 a5 (0 : Int32) (pI S a0 0 (0 : Int32)) else some ((-1 : Int32), pI S a0 0 (0 : Int32)))
set_option maxRecDepth 100000 in
theorem kX11_feed_104 {p : Program} {l : Launch} {e : Env} {s : State} {m : MethodId} {av : Array Value} {below : List Frame} {meth : Method} {c : Code} {A : Nat → Prop} {G : Gv} {L : List Nat} {q : (Int32 × MS)} {K20 : Nat → Int32 → Int32 → Int32 → Int32 → Int32 → Int32 → MS → Option (Int32 × MS)} (hK20 : ∀ (x0 : Nat) (x1 : Int32) (x2 : Int32) (x3 : Int32) (x4 : Int32) (x5 : Int32) (x6 : Int32) (S : MS) (H : Heap) (locs : List Loc) (ls : Array Slot), (x0 < shM.1 ∧ shM.2.1 x0 = 11) → mW G shM L S A s H locs → lv_has ls 8 [(0, .ref (ad L x0)), (1, .int x1), (2, .int x2), (3, .int x3), (4, .int x4), (5, .int x5), (6, .int x6)] → K20 x0 x1 x2 x3 x4 x5 x6 S = some q → W p l e (rmd (1)) s m av below meth c H locs 0 0 (MQ below (mQ G shM L q.2 (some (.int q.1)) A) av s 0 0 A) (F0 m 20 ls [])) (C : mC p s m av meth c cX11_feed RX11 8 (some .int)) : ∀ (x0 : Nat) (x1 : Int32) (x2 : Int32) (x3 : Int32) (x4 : Int32) (x5 : Int32) (x6 : Int32) (S : MS) (H : Heap) (locs : List Loc) (ls : Array Slot), (x0 < shM.1 ∧ shM.2.1 x0 = 11) → mW G shM L S A s H locs → lv_has ls 8 [(0, .ref (ad L x0)), (1, .int x1), (2, .int x2), (3, .int x3), (4, .int x4), (5, .int x5), (6, .int x6)] → fX11_feed_104 K20 x0 x1 x2 x3 x4 x5 x6 S = some q → W p l e (rmd (1)) s m av below meth c H locs 0 0 (MQ below (mQ G shM L q.2 (some (.int q.1)) A) av s 0 0 A) (F0 m 104 ls []) := by
  intro x0 x1 x2 x3 x4 x5 x6 S H locs ls hx0 hW hl hf
  unfold fX11_feed_104 at hf
  refine lv_iinc (v := x6 + (1 : Int32)) (lv' := [(6, .int (x6 + (1 : Int32))), (0, .ref (ad L x0)), (1, .int x1), (2, .int x2), (3, .int x3), (4, .int x4), (5, .int x5)]) C.1 C.2.1 dX11_feed_104 hl (k := 6) rfl (congrArg (fun z => x6 + z) ic_1) (by decide) rfl (fun ls hl => ?_)
  refine lv_goto (tgt := 20) C.1 C.2.1 dX11_feed_107 rfl ?_
  exact hK20 x0 x1 x2 x3 x4 x5 (x6 + (1 : Int32)) _ _ _ _ hx0 hW (lv_sub hl [1, 2, 3, 4, 5, 6, 0] rfl) hf

set_option maxRecDepth 100000 in
theorem kX11_feed_73 {p : Program} {l : Launch} {e : Env} {s : State} {m : MethodId} {av : Array Value} {below : List Frame} {meth : Method} {c : Code} {A : Nat → Prop} {G : Gv} {L : List Nat} {q : (Int32 × MS)} {K20 : Nat → Int32 → Int32 → Int32 → Int32 → Int32 → Int32 → MS → Option (Int32 × MS)} (hK20 : ∀ (x0 : Nat) (x1 : Int32) (x2 : Int32) (x3 : Int32) (x4 : Int32) (x5 : Int32) (x6 : Int32) (S : MS) (H : Heap) (locs : List Loc) (ls : Array Slot), (x0 < shM.1 ∧ shM.2.1 x0 = 11) → mW G shM L S A s H locs → lv_has ls 8 [(0, .ref (ad L x0)), (1, .int x1), (2, .int x2), (3, .int x3), (4, .int x4), (5, .int x5), (6, .int x6)] → K20 x0 x1 x2 x3 x4 x5 x6 S = some q → W p l e (rmd (1)) s m av below meth c H locs 0 0 (MQ below (mQ G shM L q.2 (some (.int q.1)) A) av s 0 0 A) (F0 m 20 ls [])) (C : mC p s m av meth c cX11_feed RX11 8 (some .int)) : ∀ (x0 : Nat) (x1 : Int32) (x2 : Int32) (x3 : Int32) (x4 : Int32) (x5 : Int32) (x6 : Int32) (y0 : Int32) (S : MS) (H : Heap) (locs : List Loc) (ls : Array Slot), (x0 < shM.1 ∧ shM.2.1 x0 = 11) → mW G shM L S A s H locs → lv_has ls 8 [(0, .ref (ad L x0)), (1, .int x1), (2, .int x2), (3, .int x3), (4, .int x4), (5, .int x5), (6, .int x6)] → fX11_feed_73 K20 x0 x1 x2 x3 x4 x5 x6 y0 S = some q → W p l e (rmd (1)) s m av below meth c H locs 0 0 (MQ below (mQ G shM L q.2 (some (.int q.1)) A) av s 0 0 A) (F0 m 73 ls [.int y0]) := by
  intro x0 x1 x2 x3 x4 x5 x6 y0 S H locs ls hx0 hW hl hf
  unfold fX11_feed_73 at hf
  refine lv_istore (lv' := [(7, .int y0), (0, .ref (ad L x0)), (1, .int x1), (2, .int x2), (3, .int x3), (4, .int x4), (5, .int x5), (6, .int x6)]) C.1 C.2.1 dX11_feed_73 hl (by decide) rfl (fun ls hl => ?_)
  refine lv_aload_n C.1 C.2.1 dX11_feed_75 rfl (lv_at hl 1 rfl) ?_
  refine m_getr C hW hx0 flX11_7 (by decide) dX11_feed_76 (fun hk1 => ?_)
  refine lv_aload_n C.1 C.2.1 dX11_feed_79 rfl (lv_at hl 1 rfl) ?_
  refine m_geti C hW hx0 flX11_166 dX11_feed_80 ?_
  refine lv_iload C.1 C.2.1 dX11_feed_83 (lv_at hl 7 rfl) ?_
  refine lv_iadd C.1 C.2.1 dX11_feed_85 ?_
  refine lv_iload C.1 C.2.1 dX11_feed_86 (lv_at hl 0 rfl) ?_
  refine lv_bipush C.1 C.2.1 dX11_feed_88 bp_24 ?_
  refine lv_bipush C.1 C.2.1 dX11_feed_90 bp_8 ?_
  refine lv_iload C.1 C.2.1 dX11_feed_92 (lv_at hl 7 rfl) ?_
  refine lv_iconst C.1 C.2.1 dX11_feed_94 ic_4 ?_
  refine lv_irem C.1 C.2.1 dX11_feed_95 (by decide) ?_
  refine lv_imul C.1 C.2.1 dX11_feed_96 ?_
  refine lv_isub C.1 C.2.1 dX11_feed_97 ?_
  refine lv_ishr C.1 C.2.1 dX11_feed_98 ?_
  refine lv_sipush C.1 C.2.1 dX11_feed_99 sp_255 ?_
  refine lv_iand C.1 C.2.1 dX11_feed_102 ?_
  obtain ⟨hb2, hf⟩ := gd hf
  refine m_iast C hW hk1 hb2 dX11_feed_103 (fun H locs hW => ?_)
  exact kX11_feed_104 hK20 C x0 x1 x2 x3 x4 x5 x6 _ _ _ _ hx0 hW (lv_sub hl [1, 2, 3, 4, 5, 6, 7] rfl) hf

set_option maxRecDepth 100000 in
theorem kX11_feed_20 {p : Program} {l : Launch} {e : Env} {s : State} {m : MethodId} {av : Array Value} {below : List Frame} {meth : Method} {c : Code} {A : Nat → Prop} {G : Gv} {L : List Nat} {q : (Int32 × MS)}  (C : mC p s m av meth c cX11_feed RX11 8 (some .int)) : ∀ (n : Nat) (x0 : Nat) (x1 : Int32) (x2 : Int32) (x3 : Int32) (x4 : Int32) (x5 : Int32) (x6 : Int32) (S : MS) (H : Heap) (locs : List Loc) (ls : Array Slot), (x0 < shM.1 ∧ shM.2.1 x0 = 11) → mW G shM L S A s H locs → lv_has ls 8 [(0, .ref (ad L x0)), (1, .int x1), (2, .int x2), (3, .int x3), (4, .int x4), (5, .int x5), (6, .int x6)] → fX11_feed_20  n x0 x1 x2 x3 x4 x5 x6 S = some q → W p l e (rmd (1)) s m av below meth c H locs 0 0 (MQ below (mQ G shM L q.2 (some (.int q.1)) A) av s 0 0 A) (F0 m 20 ls []) := by
  intro n
  induction n with
  | zero =>
    intro x0 x1 x2 x3 x4 x5 x6 S H locs ls hx0 hW hl hf
    rw [fX11_feed_20] at hf
    cases hf
  | succ n ih =>
    intro x0 x1 x2 x3 x4 x5 x6 S H locs ls hx0 hW hl hf
    rw [fX11_feed_20] at hf
    refine lv_iload C.1 C.2.1 dX11_feed_20 (lv_at hl 6 rfl) ?_
    refine lv_bipush C.1 C.2.1 dX11_feed_22 bp_20 ?_
    refine lv_icmp_ge (tgt := 110) C.1 C.2.1 dX11_feed_24 rfl (fun c3 => ?_) (fun c3 => ?_)
    · have hf := (if_pos c3).symm.trans hf
      refine lv_aload_n C.1 C.2.1 dX11_feed_110 rfl (lv_at hl 0 rfl) ?_
      refine lv_dup C.1 C.2.1 dX11_feed_111 rfl ?_
      refine m_geti C hW hx0 flX11_166 dX11_feed_112 ?_
      refine lv_bipush C.1 C.2.1 dX11_feed_115 bp_20 ?_
      refine lv_iadd C.1 C.2.1 dX11_feed_117 ?_
      refine m_puti C hW hx0 fpX11_166 dX11_feed_118 (fun H locs hW => ?_)
      refine lv_aload_n C.1 C.2.1 dX11_feed_121 rfl (lv_at hl 0 rfl) ?_
      refine m_geti C hW hx0 flX11_166 dX11_feed_122 ?_
      cases hf
      exact m_iret C hW dX11_feed_125
    · have hf := (if_neg c3).symm.trans hf
      refine lv_iload C.1 C.2.1 dX11_feed_27 (lv_at hl 6 rfl) ?_
      refine lv_iconst C.1 C.2.1 dX11_feed_29 ic_4 ?_
      refine lv_icmp_ge (tgt := 37) C.1 C.2.1 dX11_feed_30 rfl (fun c4 => ?_) (fun c4 => ?_)
      · have hf := (if_pos c4).symm.trans hf
        refine lv_iload C.1 C.2.1 dX11_feed_37 (lv_at hl 6 rfl) ?_
        refine lv_bipush C.1 C.2.1 dX11_feed_39 bp_8 ?_
        refine lv_icmp_ge (tgt := 48) C.1 C.2.1 dX11_feed_41 rfl (fun c5 => ?_) (fun c5 => ?_)
        · have hf := (if_pos c5).symm.trans hf
          refine lv_iload C.1 C.2.1 dX11_feed_48 (lv_at hl 6 rfl) ?_
          refine lv_bipush C.1 C.2.1 dX11_feed_50 bp_12 ?_
          refine lv_icmp_ge (tgt := 59) C.1 C.2.1 dX11_feed_52 rfl (fun c6 => ?_) (fun c6 => ?_)
          · have hf := (if_pos c6).symm.trans hf
            refine lv_iload C.1 C.2.1 dX11_feed_59 (lv_at hl 6 rfl) ?_
            refine lv_bipush C.1 C.2.1 dX11_feed_61 bp_16 ?_
            refine lv_icmp_ge (tgt := 71) C.1 C.2.1 dX11_feed_63 rfl (fun c7 => ?_) (fun c7 => ?_)
            · have hf := (if_pos c7).symm.trans hf
              refine lv_iload C.1 C.2.1 dX11_feed_71 (lv_at hl 5 rfl) ?_
              exact kX11_feed_73 ih C x0 x1 x2 x3 x4 x5 x6 x5 _ _ _ _ hx0 hW (lv_sub hl [0, 1, 2, 3, 4, 5, 6] rfl) hf
            · have hf := (if_neg c7).symm.trans hf
              refine lv_iload C.1 C.2.1 dX11_feed_66 (lv_at hl 4 rfl) ?_
              refine lv_goto (tgt := 73) C.1 C.2.1 dX11_feed_68 rfl ?_
              exact kX11_feed_73 ih C x0 x1 x2 x3 x4 x5 x6 x4 _ _ _ _ hx0 hW (lv_sub hl [0, 1, 2, 3, 4, 5, 6] rfl) hf
          · have hf := (if_neg c6).symm.trans hf
            refine lv_iload_n C.1 C.2.1 dX11_feed_55 rfl (lv_at hl 3 rfl) ?_
            refine lv_goto (tgt := 73) C.1 C.2.1 dX11_feed_56 rfl ?_
            exact kX11_feed_73 ih C x0 x1 x2 x3 x4 x5 x6 x3 _ _ _ _ hx0 hW (lv_sub hl [0, 1, 2, 3, 4, 5, 6] rfl) hf
        · have hf := (if_neg c5).symm.trans hf
          refine lv_iload_n C.1 C.2.1 dX11_feed_44 rfl (lv_at hl 2 rfl) ?_
          refine lv_goto (tgt := 73) C.1 C.2.1 dX11_feed_45 rfl ?_
          exact kX11_feed_73 ih C x0 x1 x2 x3 x4 x5 x6 x2 _ _ _ _ hx0 hW (lv_sub hl [0, 1, 2, 3, 4, 5, 6] rfl) hf
      · have hf := (if_neg c4).symm.trans hf
        refine lv_iload_n C.1 C.2.1 dX11_feed_33 rfl (lv_at hl 1 rfl) ?_
        refine lv_goto (tgt := 73) C.1 C.2.1 dX11_feed_34 rfl ?_
        exact kX11_feed_73 ih C x0 x1 x2 x3 x4 x5 x6 x1 _ _ _ _ hx0 hW (lv_sub hl [0, 1, 2, 3, 4, 5, 6] rfl) hf

set_option maxRecDepth 100000 in
theorem cX11_feed_ok {l : Launch} {G : Gv} {L : List Nat} {S : MS} {a0 : Nat} {a1 : Int32} {a2 : Int32} {a3 : Int32} {a4 : Int32} {a5 : Int32} {q : (Int32 × MS)} (ha0 : a0 < shM.1 ∧ shM.2.1 a0 = 11) (hf : fX11_feed a0 a1 a2 a3 a4 a5 S = some q) : Mt l yX11_feed cX11_feed 8 (some .int) (1) G shM L S [.ref (ad L a0), .int a1, .int a2, .int a3, .int a4, .int a5] (some (.int q.1)) q.2 := by
  refine m_enter (lv := [(0, .ref (ad L a0)), (1, .int a1), (2, .int a2), (3, .int a3), (4, .int a4), (5, .int a5)]) (plainFor_of_name (by decide)) (Nat.le_of_ble_eq_true rfl) rfl ?_
  intro p e s m below meth c A ls C hW hl
  unfold fX11_feed at hf
  refine lv_aload_n C.1 C.2.1 dX11_feed_0 rfl (lv_at hl 0 rfl) ?_
  refine lv_iconst C.1 C.2.1 dX11_feed_1 ic_0 ?_
  refine m_puti C hW ha0 fpX11_163 dX11_feed_2 (fun H locs hW => ?_)
  refine lv_aload_n C.1 C.2.1 dX11_feed_5 rfl (lv_at hl 0 rfl) ?_
  refine m_geti C hW ha0 flX11_166 dX11_feed_6 ?_
  refine lv_sipush C.1 C.2.1 dX11_feed_9 sp_680 ?_
  refine lv_icmp_le (tgt := 17) C.1 C.2.1 dX11_feed_12 rfl (fun c8 => ?_) (fun c8 => ?_)
  · have hf := (if_pos c8).symm.trans hf
    refine lv_iconst C.1 C.2.1 dX11_feed_17 ic_0 ?_
    refine lv_istore (lv' := [(6, .int (0 : Int32)), (0, .ref (ad L a0)), (1, .int a1), (2, .int a2), (3, .int a3), (4, .int a4), (5, .int a5)]) C.1 C.2.1 dX11_feed_18 hl (by decide) rfl (fun ls hl => ?_)
    exact kX11_feed_20  C 1000 a0 a1 a2 a3 a4 a5 (0 : Int32) _ _ _ _ ha0 hW (lv_sub hl [1, 2, 3, 4, 5, 6, 0] rfl) hf
  · have hf := (if_neg c8).symm.trans hf
    refine lv_iconst C.1 C.2.1 dX11_feed_15 ic_m1 ?_
    cases hf
    exact m_iret C hW dX11_feed_16

def fX11_here (a0 : Nat) (S : MS) : Option Int32 := (if (gI S a0 29) ≤ (gI S a0 30) then some (-1 : Int32) else (if bnd (gI S a0 30) (lnM (gR S a0 1)) = true then some (gI S (gR S a0 1) (gI S a0 30).toNatClampNeg) else none))
set_option maxRecDepth 100000 in
theorem cX11_here_ok {l : Launch} {G : Gv} {L : List Nat} {S : MS} {a0 : Nat} {q : Int32} (ha0 : a0 < shM.1 ∧ shM.2.1 a0 = 11) (hf : fX11_here a0 S = some q) : Mt l yX11_here cX11_here 1 (some .int) (1) G shM L S [.ref (ad L a0)] (some (.int q)) S := by
  refine m_enter (lv := [(0, .ref (ad L a0))]) (plainFor_of_name (by decide)) (Nat.le_of_ble_eq_true rfl) rfl ?_
  intro p e s m below meth c A ls C hW hl
  unfold fX11_here at hf
  refine lv_aload_n C.1 C.2.1 dX11_here_0 rfl (lv_at hl 0 rfl) ?_
  refine m_geti C hW ha0 flX11_169 dX11_here_1 ?_
  refine lv_aload_n C.1 C.2.1 dX11_here_4 rfl (lv_at hl 0 rfl) ?_
  refine m_geti C hW ha0 flX11_172 dX11_here_5 ?_
  refine lv_icmp_ge (tgt := 23) C.1 C.2.1 dX11_here_8 rfl (fun c1 => ?_) (fun c1 => ?_)
  · have hf := (if_pos c1).symm.trans hf
    refine lv_iconst C.1 C.2.1 dX11_here_23 ic_m1 ?_
    cases hf
    exact m_iret C hW dX11_here_24
  · have hf := (if_neg c1).symm.trans hf
    refine lv_aload_n C.1 C.2.1 dX11_here_11 rfl (lv_at hl 0 rfl) ?_
    refine m_getr C hW ha0 flX11_7 (by decide) dX11_here_12 (fun hk2 => ?_)
    refine lv_aload_n C.1 C.2.1 dX11_here_15 rfl (lv_at hl 0 rfl) ?_
    refine m_geti C hW ha0 flX11_169 dX11_here_16 ?_
    obtain ⟨hb3, hf⟩ := gd hf
    refine m_iald C hW hk2 hb3 dX11_here_19 ?_
    refine lv_goto (tgt := 24) C.1 C.2.1 dX11_here_20 rfl ?_
    cases hf
    exact m_iret C hW dX11_here_24

def fX11_isSmall (a0 : Int32) (S : MS) : Option Int32 := (if a0 < (97 : Int32) then some (0 : Int32) else (if (122 : Int32) < a0 then some (0 : Int32) else some (1 : Int32)))
set_option maxRecDepth 100000 in
theorem cX11_isSmall_ok {l : Launch} {G : Gv} {L : List Nat} {S : MS} {a0 : Int32} {q : Int32}  (hf : fX11_isSmall a0 S = some q) : Mt l yX11_isSmall cX11_isSmall 1 (some .boolean) (1) G shM L S [.int a0] (some (.int q)) S := by
  refine m_enter (lv := [(0, .int a0)]) (plainFor_of_name (by decide)) (Nat.le_of_ble_eq_true rfl) rfl ?_
  intro p e s m below meth c A ls C hW hl
  unfold fX11_isSmall at hf
  refine lv_iload_n C.1 C.2.1 dX11_isSmall_0 rfl (lv_at hl 0 rfl) ?_
  refine lv_bipush C.1 C.2.1 dX11_isSmall_1 bp_97 ?_
  refine lv_icmp_lt (tgt := 16) C.1 C.2.1 dX11_isSmall_3 rfl (fun c1 => ?_) (fun c1 => ?_)
  · have hf := (if_pos c1).symm.trans hf
    refine lv_iconst C.1 C.2.1 dX11_isSmall_16 ic_0 ?_
    cases hf
    exact m_zret C hW rfl dX11_isSmall_17
  · have hf := (if_neg c1).symm.trans hf
    refine lv_iload_n C.1 C.2.1 dX11_isSmall_6 rfl (lv_at hl 0 rfl) ?_
    refine lv_bipush C.1 C.2.1 dX11_isSmall_7 bp_122 ?_
    refine lv_icmp_gt (tgt := 16) C.1 C.2.1 dX11_isSmall_9 rfl (fun c2 => ?_) (fun c2 => ?_)
    · have hf := (if_pos c2).symm.trans hf
      refine lv_iconst C.1 C.2.1 dX11_isSmall_16 ic_0 ?_
      cases hf
      exact m_zret C hW rfl dX11_isSmall_17
    · have hf := (if_neg c2).symm.trans hf
      refine lv_iconst C.1 C.2.1 dX11_isSmall_12 ic_1 ?_
      refine lv_goto (tgt := 17) C.1 C.2.1 dX11_isSmall_13 rfl ?_
      cases hf
      exact m_zret C hW rfl dX11_isSmall_17

def fX11_isDigit (a0 : Int32) (S : MS) : Option Int32 := (if a0 < (48 : Int32) then some (0 : Int32) else (if (57 : Int32) < a0 then some (0 : Int32) else some (1 : Int32)))
set_option maxRecDepth 100000 in
theorem cX11_isDigit_ok {l : Launch} {G : Gv} {L : List Nat} {S : MS} {a0 : Int32} {q : Int32}  (hf : fX11_isDigit a0 S = some q) : Mt l yX11_isDigit cX11_isDigit 1 (some .boolean) (1) G shM L S [.int a0] (some (.int q)) S := by
  refine m_enter (lv := [(0, .int a0)]) (plainFor_of_name (by decide)) (Nat.le_of_ble_eq_true rfl) rfl ?_
  intro p e s m below meth c A ls C hW hl
  unfold fX11_isDigit at hf
  refine lv_iload_n C.1 C.2.1 dX11_isDigit_0 rfl (lv_at hl 0 rfl) ?_
  refine lv_bipush C.1 C.2.1 dX11_isDigit_1 bp_48 ?_
  refine lv_icmp_lt (tgt := 16) C.1 C.2.1 dX11_isDigit_3 rfl (fun c1 => ?_) (fun c1 => ?_)
  · have hf := (if_pos c1).symm.trans hf
    refine lv_iconst C.1 C.2.1 dX11_isDigit_16 ic_0 ?_
    cases hf
    exact m_zret C hW rfl dX11_isDigit_17
  · have hf := (if_neg c1).symm.trans hf
    refine lv_iload_n C.1 C.2.1 dX11_isDigit_6 rfl (lv_at hl 0 rfl) ?_
    refine lv_bipush C.1 C.2.1 dX11_isDigit_7 bp_57 ?_
    refine lv_icmp_gt (tgt := 16) C.1 C.2.1 dX11_isDigit_9 rfl (fun c2 => ?_) (fun c2 => ?_)
    · have hf := (if_pos c2).symm.trans hf
      refine lv_iconst C.1 C.2.1 dX11_isDigit_16 ic_0 ?_
      cases hf
      exact m_zret C hW rfl dX11_isDigit_17
    · have hf := (if_neg c2).symm.trans hf
      refine lv_iconst C.1 C.2.1 dX11_isDigit_12 ic_1 ?_
      refine lv_goto (tgt := 17) C.1 C.2.1 dX11_isDigit_13 rfl ?_
      cases hf
      exact m_zret C hW rfl dX11_isDigit_17

def fX11_name_53 (K7 : Nat → Int32 → MS → Option MS) (x0 : Nat) (x1 : Int32) (y0 : Nat) (y1 : Int32) (y2 : Int32) (S : MS) : Option MS := K7 x0 (x1 + (1 : Int32)) (pI S y0 33 (y1 ||| y2))
def fX11_name_7  : Nat → Nat → Int32 → MS → Option MS
  | 0, _, _, _ => none
  | n + 1, x0, x1, S => (if (6 : Int32) ≤ x1 then some S else (if (gI S x0 30) ≤ ((gI S x0 31) + x1) then fX11_name_53 (fX11_name_7  n) x0 x1 x0 ((gI S x0 33) <<< ((5 : Int32) &&& 31)) (0 : Int32) S else (if bnd ((gI S x0 31) + x1) (lnM (gR S x0 1)) = true then fX11_name_53 (fX11_name_7  n) x0 x1 x0 ((gI S x0 33) <<< ((5 : Int32) &&& 31)) (((gI S (gR S x0 1) ((gI S x0 31) + x1).toNatClampNeg) - (97 : Int32)) + (1 : Int32)) S else none)))
def fX11_name (a0 : Nat) (S : MS) : Option MS := fX11_name_7  1000 a0 (0 : Int32) (pI S a0 33 (0 : Int32))
set_option maxRecDepth 100000 in
theorem kX11_name_53 {p : Program} {l : Launch} {e : Env} {s : State} {m : MethodId} {av : Array Value} {below : List Frame} {meth : Method} {c : Code} {A : Nat → Prop} {G : Gv} {L : List Nat} {q : MS} {K7 : Nat → Int32 → MS → Option MS} (hK7 : ∀ (x0 : Nat) (x1 : Int32) (S : MS) (H : Heap) (locs : List Loc) (ls : Array Slot), (x0 < shM.1 ∧ shM.2.1 x0 = 11) → mW G shM L S A s H locs → lv_has ls 2 [(0, .ref (ad L x0)), (1, .int x1)] → K7 x0 x1 S = some q → W p l e (rmd (1)) s m av below meth c H locs 0 0 (MQ below (mQ G shM L q none A) av s 0 0 A) (F0 m 7 ls [])) (C : mC p s m av meth c cX11_name RX11 2 none) : ∀ (x0 : Nat) (x1 : Int32) (y0 : Nat) (y1 : Int32) (y2 : Int32) (S : MS) (H : Heap) (locs : List Loc) (ls : Array Slot), (x0 < shM.1 ∧ shM.2.1 x0 = 11) → (y0 < shM.1 ∧ shM.2.1 y0 = 11) → mW G shM L S A s H locs → lv_has ls 2 [(0, .ref (ad L x0)), (1, .int x1)] → fX11_name_53 K7 x0 x1 y0 y1 y2 S = some q → W p l e (rmd (1)) s m av below meth c H locs 0 0 (MQ below (mQ G shM L q none A) av s 0 0 A) (F0 m 53 ls [.int y2, .int y1, .ref (ad L y0)]) := by
  intro x0 x1 y0 y1 y2 S H locs ls hx0 hy0 hW hl hf
  unfold fX11_name_53 at hf
  refine lv_ior C.1 C.2.1 dX11_name_53 ?_
  refine m_puti C hW hy0 fpX11_192 dX11_name_54 (fun H locs hW => ?_)
  refine lv_iinc (v := x1 + (1 : Int32)) (lv' := [(1, .int (x1 + (1 : Int32))), (0, .ref (ad L x0))]) C.1 C.2.1 dX11_name_57 hl (k := 1) rfl (congrArg (fun z => x1 + z) ic_1) (by decide) rfl (fun ls hl => ?_)
  refine lv_goto (tgt := 7) C.1 C.2.1 dX11_name_60 rfl ?_
  exact hK7 x0 (x1 + (1 : Int32)) _ _ _ _ hx0 hW (lv_sub hl [1, 0] rfl) hf

set_option maxRecDepth 100000 in
theorem kX11_name_7 {p : Program} {l : Launch} {e : Env} {s : State} {m : MethodId} {av : Array Value} {below : List Frame} {meth : Method} {c : Code} {A : Nat → Prop} {G : Gv} {L : List Nat} {q : MS}  (C : mC p s m av meth c cX11_name RX11 2 none) : ∀ (n : Nat) (x0 : Nat) (x1 : Int32) (S : MS) (H : Heap) (locs : List Loc) (ls : Array Slot), (x0 < shM.1 ∧ shM.2.1 x0 = 11) → mW G shM L S A s H locs → lv_has ls 2 [(0, .ref (ad L x0)), (1, .int x1)] → fX11_name_7  n x0 x1 S = some q → W p l e (rmd (1)) s m av below meth c H locs 0 0 (MQ below (mQ G shM L q none A) av s 0 0 A) (F0 m 7 ls []) := by
  intro n
  induction n with
  | zero =>
    intro x0 x1 S H locs ls hx0 hW hl hf
    rw [fX11_name_7] at hf
    cases hf
  | succ n ih =>
    intro x0 x1 S H locs ls hx0 hW hl hf
    rw [fX11_name_7] at hf
    refine lv_iload_n C.1 C.2.1 dX11_name_7 rfl (lv_at hl 1 rfl) ?_
    refine lv_bipush C.1 C.2.1 dX11_name_8 bp_6 ?_
    refine lv_icmp_ge (tgt := 63) C.1 C.2.1 dX11_name_10 rfl (fun c1 => ?_) (fun c1 => ?_)
    · have hf := (if_pos c1).symm.trans hf
      cases hf
      exact m_vret C hW dX11_name_63
    · have hf := (if_neg c1).symm.trans hf
      refine lv_aload_n C.1 C.2.1 dX11_name_13 rfl (lv_at hl 0 rfl) ?_
      refine lv_aload_n C.1 C.2.1 dX11_name_14 rfl (lv_at hl 0 rfl) ?_
      refine m_geti C hW hx0 flX11_192 dX11_name_15 ?_
      refine lv_iconst C.1 C.2.1 dX11_name_18 ic_5 ?_
      refine lv_ishl C.1 C.2.1 dX11_name_19 ?_
      refine lv_aload_n C.1 C.2.1 dX11_name_20 rfl (lv_at hl 0 rfl) ?_
      refine m_geti C hW hx0 flX11_179 dX11_name_21 ?_
      refine lv_iload_n C.1 C.2.1 dX11_name_24 rfl (lv_at hl 1 rfl) ?_
      refine lv_iadd C.1 C.2.1 dX11_name_25 ?_
      refine lv_aload_n C.1 C.2.1 dX11_name_26 rfl (lv_at hl 0 rfl) ?_
      refine m_geti C hW hx0 flX11_169 dX11_name_27 ?_
      refine lv_icmp_ge (tgt := 52) C.1 C.2.1 dX11_name_30 rfl (fun c2 => ?_) (fun c2 => ?_)
      · have hf := (if_pos c2).symm.trans hf
        refine lv_iconst C.1 C.2.1 dX11_name_52 ic_0 ?_
        exact kX11_name_53 ih C x0 x1 x0 ((gI S x0 33) <<< ((5 : Int32) &&& 31)) (0 : Int32) _ _ _ _ hx0 hx0 hW (lv_sub hl [0, 1] rfl) hf
      · have hf := (if_neg c2).symm.trans hf
        refine lv_aload_n C.1 C.2.1 dX11_name_33 rfl (lv_at hl 0 rfl) ?_
        refine m_getr C hW hx0 flX11_7 (by decide) dX11_name_34 (fun hk3 => ?_)
        refine lv_aload_n C.1 C.2.1 dX11_name_37 rfl (lv_at hl 0 rfl) ?_
        refine m_geti C hW hx0 flX11_179 dX11_name_38 ?_
        refine lv_iload_n C.1 C.2.1 dX11_name_41 rfl (lv_at hl 1 rfl) ?_
        refine lv_iadd C.1 C.2.1 dX11_name_42 ?_
        obtain ⟨hb4, hf⟩ := gd hf
        refine m_iald C hW hk3 hb4 dX11_name_43 ?_
        refine lv_bipush C.1 C.2.1 dX11_name_44 bp_97 ?_
        refine lv_isub C.1 C.2.1 dX11_name_46 ?_
        refine lv_iconst C.1 C.2.1 dX11_name_47 ic_1 ?_
        refine lv_iadd C.1 C.2.1 dX11_name_48 ?_
        refine lv_goto (tgt := 53) C.1 C.2.1 dX11_name_49 rfl ?_
        exact kX11_name_53 ih C x0 x1 x0 ((gI S x0 33) <<< ((5 : Int32) &&& 31)) (((gI S (gR S x0 1) ((gI S x0 31) + x1).toNatClampNeg) - (97 : Int32)) + (1 : Int32)) _ _ _ _ hx0 hx0 hW (lv_sub hl [0, 1] rfl) hf

set_option maxRecDepth 100000 in
theorem cX11_name_ok {l : Launch} {G : Gv} {L : List Nat} {S : MS} {a0 : Nat} {q : MS} (ha0 : a0 < shM.1 ∧ shM.2.1 a0 = 11) (hf : fX11_name a0 S = some q) : Mt l yX11_name cX11_name 2 none (1) G shM L S [.ref (ad L a0)] none q := by
  refine m_enter (lv := [(0, .ref (ad L a0))]) (plainFor_of_name (by decide)) (Nat.le_of_ble_eq_true rfl) rfl ?_
  intro p e s m below meth c A ls C hW hl
  unfold fX11_name at hf
  refine lv_aload_n C.1 C.2.1 dX11_name_0 rfl (lv_at hl 0 rfl) ?_
  refine lv_iconst C.1 C.2.1 dX11_name_1 ic_0 ?_
  refine m_puti C hW ha0 fpX11_192 dX11_name_2 (fun H locs hW => ?_)
  refine lv_iconst C.1 C.2.1 dX11_name_5 ic_0 ?_
  refine lv_istore_n (lv' := [(1, .int (0 : Int32)), (0, .ref (ad L a0))]) C.1 C.2.1 dX11_name_6 rfl hl (by decide) rfl (fun ls hl => ?_)
  exact kX11_name_7  C 1000 a0 (0 : Int32) _ _ _ _ ha0 hW (lv_sub hl [1, 0] rfl) hf

def fX11_wrong (a0 : Nat) (a1 : Int32) (S : MS) : Option MS := (if gI S a0 34 = (0 : Int32) then some (pI (pI S a0 34 a1) a0 35 (gI (pI S a0 34 a1) a0 31)) else some S)
set_option maxRecDepth 100000 in
theorem cX11_wrong_ok {l : Launch} {G : Gv} {L : List Nat} {S : MS} {a0 : Nat} {a1 : Int32} {q : MS} (ha0 : a0 < shM.1 ∧ shM.2.1 a0 = 11) (hf : fX11_wrong a0 a1 S = some q) : Mt l yX11_wrong cX11_wrong 2 none (1) G shM L S [.ref (ad L a0), .int a1] none q := by
  refine m_enter (lv := [(0, .ref (ad L a0)), (1, .int a1)]) (plainFor_of_name (by decide)) (Nat.le_of_ble_eq_true rfl) rfl ?_
  intro p e s m below meth c A ls C hW hl
  unfold fX11_wrong at hf
  refine lv_aload_n C.1 C.2.1 dX11_wrong_0 rfl (lv_at hl 0 rfl) ?_
  refine m_geti C hW ha0 flX11_217 dX11_wrong_1 ?_
  refine lv_if_eq (tgt := 8) C.1 C.2.1 dX11_wrong_4 rfl (fun c1 => ?_) (fun c1 => ?_)
  · have hf := (if_pos c1).symm.trans hf
    refine lv_aload_n C.1 C.2.1 dX11_wrong_8 rfl (lv_at hl 0 rfl) ?_
    refine lv_iload_n C.1 C.2.1 dX11_wrong_9 rfl (lv_at hl 1 rfl) ?_
    refine m_puti C hW ha0 fpX11_217 dX11_wrong_10 (fun H locs hW => ?_)
    refine lv_aload_n C.1 C.2.1 dX11_wrong_13 rfl (lv_at hl 0 rfl) ?_
    refine lv_aload_n C.1 C.2.1 dX11_wrong_14 rfl (lv_at hl 0 rfl) ?_
    refine m_geti C hW ha0 flX11_179 dX11_wrong_15 ?_
    refine m_puti C hW ha0 fpX11_220 dX11_wrong_18 (fun H locs hW => ?_)
    cases hf
    exact m_vret C hW dX11_wrong_21
  · have hf := (if_neg c1).symm.trans hf
    cases hf
    exact m_vret C hW dX11_wrong_7

def fX11_isWord (a0 : Nat) (a1 : Int32) (S : MS) : Option Int32 := (if gI S a0 34 = (0 : Int32) then (if gI S a0 32 = (0 : Int32) then (if gI S a0 33 = a1 then some (1 : Int32) else some (0 : Int32)) else some (0 : Int32)) else some (0 : Int32))
set_option maxRecDepth 100000 in
theorem cX11_isWord_ok {l : Launch} {G : Gv} {L : List Nat} {S : MS} {a0 : Nat} {a1 : Int32} {q : Int32} (ha0 : a0 < shM.1 ∧ shM.2.1 a0 = 11) (hf : fX11_isWord a0 a1 S = some q) : Mt l yX11_isWord cX11_isWord 2 (some .boolean) (1) G shM L S [.ref (ad L a0), .int a1] (some (.int q)) S := by
  refine m_enter (lv := [(0, .ref (ad L a0)), (1, .int a1)]) (plainFor_of_name (by decide)) (Nat.le_of_ble_eq_true rfl) rfl ?_
  intro p e s m below meth c A ls C hW hl
  unfold fX11_isWord at hf
  refine lv_aload_n C.1 C.2.1 dX11_isWord_0 rfl (lv_at hl 0 rfl) ?_
  refine m_geti C hW ha0 flX11_217 dX11_isWord_1 ?_
  refine lv_if_ne (tgt := 26) C.1 C.2.1 dX11_isWord_4 rfl (fun c1 => ?_) (fun c1 => ?_)
  · have hf := (if_neg c1).symm.trans hf
    refine lv_iconst C.1 C.2.1 dX11_isWord_26 ic_0 ?_
    cases hf
    exact m_zret C hW rfl dX11_isWord_27
  · have hf := (if_pos c1).symm.trans hf
    refine lv_aload_n C.1 C.2.1 dX11_isWord_7 rfl (lv_at hl 0 rfl) ?_
    refine m_geti C hW ha0 flX11_182 dX11_isWord_8 ?_
    refine lv_if_ne (tgt := 26) C.1 C.2.1 dX11_isWord_11 rfl (fun c2 => ?_) (fun c2 => ?_)
    · have hf := (if_neg c2).symm.trans hf
      refine lv_iconst C.1 C.2.1 dX11_isWord_26 ic_0 ?_
      cases hf
      exact m_zret C hW rfl dX11_isWord_27
    · have hf := (if_pos c2).symm.trans hf
      refine lv_aload_n C.1 C.2.1 dX11_isWord_14 rfl (lv_at hl 0 rfl) ?_
      refine m_geti C hW ha0 flX11_192 dX11_isWord_15 ?_
      refine lv_iload_n C.1 C.2.1 dX11_isWord_18 rfl (lv_at hl 1 rfl) ?_
      refine lv_icmp_ne (tgt := 26) C.1 C.2.1 dX11_isWord_19 rfl (fun c3 => ?_) (fun c3 => ?_)
      · have hf := (if_neg c3).symm.trans hf
        refine lv_iconst C.1 C.2.1 dX11_isWord_26 ic_0 ?_
        cases hf
        exact m_zret C hW rfl dX11_isWord_27
      · have hf := (if_pos c3).symm.trans hf
        refine lv_iconst C.1 C.2.1 dX11_isWord_22 ic_1 ?_
        refine lv_goto (tgt := 27) C.1 C.2.1 dX11_isWord_23 rfl ?_
        cases hf
        exact m_zret C hW rfl dX11_isWord_27

def fX11_isSign (a0 : Nat) (a1 : Int32) (S : MS) : Option Int32 := (if gI S a0 34 = (0 : Int32) then (if gI S a0 32 = (3 : Int32) then (if gI S a0 33 = a1 then some (1 : Int32) else some (0 : Int32)) else some (0 : Int32)) else some (0 : Int32))
set_option maxRecDepth 100000 in
theorem cX11_isSign_ok {l : Launch} {G : Gv} {L : List Nat} {S : MS} {a0 : Nat} {a1 : Int32} {q : Int32} (ha0 : a0 < shM.1 ∧ shM.2.1 a0 = 11) (hf : fX11_isSign a0 a1 S = some q) : Mt l yX11_isSign cX11_isSign 2 (some .boolean) (1) G shM L S [.ref (ad L a0), .int a1] (some (.int q)) S := by
  refine m_enter (lv := [(0, .ref (ad L a0)), (1, .int a1)]) (plainFor_of_name (by decide)) (Nat.le_of_ble_eq_true rfl) rfl ?_
  intro p e s m below meth c A ls C hW hl
  unfold fX11_isSign at hf
  refine lv_aload_n C.1 C.2.1 dX11_isSign_0 rfl (lv_at hl 0 rfl) ?_
  refine m_geti C hW ha0 flX11_217 dX11_isSign_1 ?_
  refine lv_if_ne (tgt := 27) C.1 C.2.1 dX11_isSign_4 rfl (fun c1 => ?_) (fun c1 => ?_)
  · have hf := (if_neg c1).symm.trans hf
    refine lv_iconst C.1 C.2.1 dX11_isSign_27 ic_0 ?_
    cases hf
    exact m_zret C hW rfl dX11_isSign_28
  · have hf := (if_pos c1).symm.trans hf
    refine lv_aload_n C.1 C.2.1 dX11_isSign_7 rfl (lv_at hl 0 rfl) ?_
    refine m_geti C hW ha0 flX11_182 dX11_isSign_8 ?_
    refine lv_iconst C.1 C.2.1 dX11_isSign_11 ic_3 ?_
    refine lv_icmp_ne (tgt := 27) C.1 C.2.1 dX11_isSign_12 rfl (fun c2 => ?_) (fun c2 => ?_)
    · have hf := (if_neg c2).symm.trans hf
      refine lv_iconst C.1 C.2.1 dX11_isSign_27 ic_0 ?_
      cases hf
      exact m_zret C hW rfl dX11_isSign_28
    · have hf := (if_pos c2).symm.trans hf
      refine lv_aload_n C.1 C.2.1 dX11_isSign_15 rfl (lv_at hl 0 rfl) ?_
      refine m_geti C hW ha0 flX11_192 dX11_isSign_16 ?_
      refine lv_iload_n C.1 C.2.1 dX11_isSign_19 rfl (lv_at hl 1 rfl) ?_
      refine lv_icmp_ne (tgt := 27) C.1 C.2.1 dX11_isSign_20 rfl (fun c3 => ?_) (fun c3 => ?_)
      · have hf := (if_neg c3).symm.trans hf
        refine lv_iconst C.1 C.2.1 dX11_isSign_27 ic_0 ?_
        cases hf
        exact m_zret C hW rfl dX11_isSign_28
      · have hf := (if_pos c3).symm.trans hf
        refine lv_iconst C.1 C.2.1 dX11_isSign_23 ic_1 ?_
        refine lv_goto (tgt := 28) C.1 C.2.1 dX11_isSign_24 rfl ?_
        cases hf
        exact m_zret C hW rfl dX11_isSign_28

def fX11_found_3  : Nat → Nat → Int32 → Int32 → Int32 → Int32 → MS → Option Int32
  | 0, _, _, _, _, _, _ => none
  | n + 1, x0, x1, x2, x3, x4, S => (if x2 ≤ x4 then some (-1 : Int32) else (if bnd (x1 + x4) (lnM x0) = true then (if gI S x0 (x1 + x4).toNatClampNeg = x3 then some x4 else (fX11_found_3  n) x0 x1 x2 x3 (x4 + (1 : Int32)) S) else none))
def fX11_found (a0 : Nat) (a1 : Int32) (a2 : Int32) (a3 : Int32) (S : MS) : Option Int32 := fX11_found_3  1000 a0 a1 a2 a3 (0 : Int32) S
set_option maxRecDepth 100000 in
theorem kX11_found_3 {p : Program} {l : Launch} {e : Env} {s : State} {m : MethodId} {av : Array Value} {below : List Frame} {meth : Method} {c : Code} {A : Nat → Prop} {G : Gv} {L : List Nat} {S : MS} {q : Int32}  (C : mC p s m av meth c cX11_found RX11 5 (some .int)) : ∀ (n : Nat) (x0 : Nat) (x1 : Int32) (x2 : Int32) (x3 : Int32) (x4 : Int32) (H : Heap) (locs : List Loc) (ls : Array Slot), (x0 < shM.1 ∧ shM.2.1 x0 = 13) → mW G shM L S A s H locs → lv_has ls 5 [(0, .ref (ad L x0)), (1, .int x1), (2, .int x2), (3, .int x3), (4, .int x4)] → fX11_found_3  n x0 x1 x2 x3 x4 S = some q → W p l e (rmd (1)) s m av below meth c H locs 0 0 (MQ below (mQ G shM L S (some (.int q)) A) av s 0 0 A) (F0 m 3 ls []) := by
  intro n
  induction n with
  | zero =>
    intro x0 x1 x2 x3 x4 H locs ls hx0 hW hl hf
    rw [fX11_found_3] at hf
    cases hf
  | succ n ih =>
    intro x0 x1 x2 x3 x4 H locs ls hx0 hW hl hf
    rw [fX11_found_3] at hf
    refine lv_iload C.1 C.2.1 dX11_found_3 (lv_at hl 4 rfl) ?_
    refine lv_iload_n C.1 C.2.1 dX11_found_5 rfl (lv_at hl 2 rfl) ?_
    refine lv_icmp_ge (tgt := 28) C.1 C.2.1 dX11_found_6 rfl (fun c1 => ?_) (fun c1 => ?_)
    · have hf := (if_pos c1).symm.trans hf
      refine lv_iconst C.1 C.2.1 dX11_found_28 ic_m1 ?_
      cases hf
      exact m_iret C hW dX11_found_29
    · have hf := (if_neg c1).symm.trans hf
      refine lv_aload_n C.1 C.2.1 dX11_found_9 rfl (lv_at hl 0 rfl) ?_
      refine lv_iload_n C.1 C.2.1 dX11_found_10 rfl (lv_at hl 1 rfl) ?_
      refine lv_iload C.1 C.2.1 dX11_found_11 (lv_at hl 4 rfl) ?_
      refine lv_iadd C.1 C.2.1 dX11_found_13 ?_
      obtain ⟨hb2, hf⟩ := gd hf
      refine m_iald C hW hx0 hb2 dX11_found_14 ?_
      refine lv_iload_n C.1 C.2.1 dX11_found_15 rfl (lv_at hl 3 rfl) ?_
      refine lv_icmp_ne (tgt := 22) C.1 C.2.1 dX11_found_16 rfl (fun c3 => ?_) (fun c3 => ?_)
      · have hf := (if_neg c3).symm.trans hf
        refine lv_iinc (v := x4 + (1 : Int32)) (lv' := [(4, .int (x4 + (1 : Int32))), (0, .ref (ad L x0)), (1, .int x1), (2, .int x2), (3, .int x3)]) C.1 C.2.1 dX11_found_22 hl (k := 4) rfl (congrArg (fun z => x4 + z) ic_1) (by decide) rfl (fun ls hl => ?_)
        refine lv_goto (tgt := 3) C.1 C.2.1 dX11_found_25 rfl ?_
        exact ih x0 x1 x2 x3 (x4 + (1 : Int32)) _ _ _ hx0 hW (lv_sub hl [1, 2, 3, 4, 0] rfl) hf
      · have hf := (if_pos c3).symm.trans hf
        refine lv_iload C.1 C.2.1 dX11_found_19 (lv_at hl 4 rfl) ?_
        cases hf
        exact m_iret C hW dX11_found_21

set_option maxRecDepth 100000 in
theorem cX11_found_ok {l : Launch} {G : Gv} {L : List Nat} {S : MS} {a0 : Nat} {a1 : Int32} {a2 : Int32} {a3 : Int32} {q : Int32} (ha0 : a0 < shM.1 ∧ shM.2.1 a0 = 13) (hf : fX11_found a0 a1 a2 a3 S = some q) : Mt l yX11_found cX11_found 5 (some .int) (1) G shM L S [.ref (ad L a0), .int a1, .int a2, .int a3] (some (.int q)) S := by
  refine m_enter (lv := [(0, .ref (ad L a0)), (1, .int a1), (2, .int a2), (3, .int a3)]) (plainFor_of_name (by decide)) (Nat.le_of_ble_eq_true rfl) rfl ?_
  intro p e s m below meth c A ls C hW hl
  unfold fX11_found at hf
  refine lv_iconst C.1 C.2.1 dX11_found_0 ic_0 ?_
  refine lv_istore (lv' := [(4, .int (0 : Int32)), (0, .ref (ad L a0)), (1, .int a1), (2, .int a2), (3, .int a3)]) C.1 C.2.1 dX11_found_1 hl (by decide) rfl (fun ls hl => ?_)
  exact kX11_found_3  C 1000 a0 a1 a2 a3 (0 : Int32) _ _ _ ha0 hW (lv_sub hl [1, 2, 3, 4, 0] rfl) hf

def fX11_fresher (a0 : Nat) (a1 : Int32) (S : MS) : Option Int32 := (if bnd ((13 : Int32) + a1) (lnM (gR S a0 3)) = true then some (gI S (gR S a0 3) ((13 : Int32) + a1).toNatClampNeg) else none)
set_option maxRecDepth 100000 in
theorem cX11_fresher_ok {l : Launch} {G : Gv} {L : List Nat} {S : MS} {a0 : Nat} {a1 : Int32} {q : Int32} (ha0 : a0 < shM.1 ∧ shM.2.1 a0 = 11) (hf : fX11_fresher a0 a1 S = some q) : Mt l yX11_fresher cX11_fresher 2 (some .int) (1) G shM L S [.ref (ad L a0), .int a1] (some (.int q)) S := by
  refine m_enter (lv := [(0, .ref (ad L a0)), (1, .int a1)]) (plainFor_of_name (by decide)) (Nat.le_of_ble_eq_true rfl) rfl ?_
  intro p e s m below meth c A ls C hW hl
  unfold fX11_fresher at hf
  refine lv_aload_n C.1 C.2.1 dX11_fresher_0 rfl (lv_at hl 0 rfl) ?_
  refine m_getr C hW ha0 flX11_13 (by decide) dX11_fresher_1 (fun hk1 => ?_)
  refine lv_bipush C.1 C.2.1 dX11_fresher_4 bp_13 ?_
  refine lv_iload_n C.1 C.2.1 dX11_fresher_6 rfl (lv_at hl 1 rfl) ?_
  refine lv_iadd C.1 C.2.1 dX11_fresher_7 ?_
  obtain ⟨hb2, hf⟩ := gd hf
  refine m_iald C hW hk1 hb2 dX11_fresher_8 ?_
  cases hf
  exact m_iret C hW dX11_fresher_9

def fX11_reads (a0 : Nat) (a1 : Int32) (a2 : Int32) (S : MS) : Option MS := (if bnd ((13 : Int32) + a1) (lnM (gR S a0 3)) = true then some (pI S (gR S a0 3) (((13 : Int32) + a1).toNatClampNeg) a2) else none)
set_option maxRecDepth 100000 in
theorem cX11_reads_ok {l : Launch} {G : Gv} {L : List Nat} {S : MS} {a0 : Nat} {a1 : Int32} {a2 : Int32} {q : MS} (ha0 : a0 < shM.1 ∧ shM.2.1 a0 = 11) (hf : fX11_reads a0 a1 a2 S = some q) : Mt l yX11_reads cX11_reads 3 none (1) G shM L S [.ref (ad L a0), .int a1, .int a2] none q := by
  refine m_enter (lv := [(0, .ref (ad L a0)), (1, .int a1), (2, .int a2)]) (plainFor_of_name (by decide)) (Nat.le_of_ble_eq_true rfl) rfl ?_
  intro p e s m below meth c A ls C hW hl
  unfold fX11_reads at hf
  refine lv_aload_n C.1 C.2.1 dX11_reads_0 rfl (lv_at hl 0 rfl) ?_
  refine m_getr C hW ha0 flX11_13 (by decide) dX11_reads_1 (fun hk1 => ?_)
  refine lv_bipush C.1 C.2.1 dX11_reads_4 bp_13 ?_
  refine lv_iload_n C.1 C.2.1 dX11_reads_6 rfl (lv_at hl 1 rfl) ?_
  refine lv_iadd C.1 C.2.1 dX11_reads_7 ?_
  refine lv_iload_n C.1 C.2.1 dX11_reads_8 rfl (lv_at hl 2 rfl) ?_
  obtain ⟨hb2, hf⟩ := gd hf
  refine m_iast C hW hk1 hb2 dX11_reads_9 (fun H locs hW => ?_)
  cases hf
  exact m_vret C hW dX11_reads_10

def fX11_isOnce (a0 : Int32) (S : MS) : Option Int32 := (if a0 = (1 : Int32) then some (1 : Int32) else (if a0 = (8 : Int32) then some (1 : Int32) else (if a0 = (9 : Int32) then some (1 : Int32) else some (0 : Int32))))
set_option maxRecDepth 100000 in
theorem cX11_isOnce_ok {l : Launch} {G : Gv} {L : List Nat} {S : MS} {a0 : Int32} {q : Int32}  (hf : fX11_isOnce a0 S = some q) : Mt l yX11_isOnce cX11_isOnce 1 (some .boolean) (1) G shM L S [.int a0] (some (.int q)) S := by
  refine m_enter (lv := [(0, .int a0)]) (plainFor_of_name (by decide)) (Nat.le_of_ble_eq_true rfl) rfl ?_
  intro p e s m below meth c A ls C hW hl
  unfold fX11_isOnce at hf
  refine lv_iload_n C.1 C.2.1 dX11_isOnce_0 rfl (lv_at hl 0 rfl) ?_
  refine lv_iconst C.1 C.2.1 dX11_isOnce_1 ic_1 ?_
  refine lv_icmp_eq (tgt := 17) C.1 C.2.1 dX11_isOnce_2 rfl (fun c1 => ?_) (fun c1 => ?_)
  · have hf := (if_pos c1).symm.trans hf
    refine lv_iconst C.1 C.2.1 dX11_isOnce_17 ic_1 ?_
    refine lv_goto (tgt := 22) C.1 C.2.1 dX11_isOnce_18 rfl ?_
    cases hf
    exact m_zret C hW rfl dX11_isOnce_22
  · have hf := (if_neg c1).symm.trans hf
    refine lv_iload_n C.1 C.2.1 dX11_isOnce_5 rfl (lv_at hl 0 rfl) ?_
    refine lv_bipush C.1 C.2.1 dX11_isOnce_6 bp_8 ?_
    refine lv_icmp_eq (tgt := 17) C.1 C.2.1 dX11_isOnce_8 rfl (fun c2 => ?_) (fun c2 => ?_)
    · have hf := (if_pos c2).symm.trans hf
      refine lv_iconst C.1 C.2.1 dX11_isOnce_17 ic_1 ?_
      refine lv_goto (tgt := 22) C.1 C.2.1 dX11_isOnce_18 rfl ?_
      cases hf
      exact m_zret C hW rfl dX11_isOnce_22
    · have hf := (if_neg c2).symm.trans hf
      refine lv_iload_n C.1 C.2.1 dX11_isOnce_11 rfl (lv_at hl 0 rfl) ?_
      refine lv_bipush C.1 C.2.1 dX11_isOnce_12 bp_9 ?_
      refine lv_icmp_ne (tgt := 21) C.1 C.2.1 dX11_isOnce_14 rfl (fun c3 => ?_) (fun c3 => ?_)
      · have hf := (if_neg c3).symm.trans hf
        refine lv_iconst C.1 C.2.1 dX11_isOnce_21 ic_0 ?_
        cases hf
        exact m_zret C hW rfl dX11_isOnce_22
      · have hf := (if_pos c3).symm.trans hf
        refine lv_iconst C.1 C.2.1 dX11_isOnce_17 ic_1 ?_
        refine lv_goto (tgt := 22) C.1 C.2.1 dX11_isOnce_18 rfl ?_
        cases hf
        exact m_zret C hW rfl dX11_isOnce_22

def fX11_half_7  : Nat → Nat → Int32 → Int32 → MS → Option MS
  | 0, _, _, _, _ => none
  | n + 1, x0, x1, x2, S => (if x1 ≤ x2 then some S else (if bnd (x1 + x2) (lnM x0) = true then (if bnd x2 (lnM x0) = true then (fX11_half_7  n) x0 x1 (x2 + (1 : Int32)) (pI S x0 x2.toNatClampNeg (gI S x0 (x1 + x2).toNatClampNeg)) else none) else none))
def fX11_half (a0 : Nat) (S : MS) : Option MS := fX11_half_7  1000 a0 ((Int32.ofNat (lnM a0)) / (2 : Int32)) (0 : Int32) S
set_option maxRecDepth 100000 in
theorem kX11_half_7 {p : Program} {l : Launch} {e : Env} {s : State} {m : MethodId} {av : Array Value} {below : List Frame} {meth : Method} {c : Code} {A : Nat → Prop} {G : Gv} {L : List Nat} {q : MS}  (C : mC p s m av meth c cX11_half RX11 3 none) : ∀ (n : Nat) (x0 : Nat) (x1 : Int32) (x2 : Int32) (S : MS) (H : Heap) (locs : List Loc) (ls : Array Slot), (x0 < shM.1 ∧ shM.2.1 x0 = 13) → mW G shM L S A s H locs → lv_has ls 3 [(0, .ref (ad L x0)), (1, .int x1), (2, .int x2)] → fX11_half_7  n x0 x1 x2 S = some q → W p l e (rmd (1)) s m av below meth c H locs 0 0 (MQ below (mQ G shM L q none A) av s 0 0 A) (F0 m 7 ls []) := by
  intro n
  induction n with
  | zero =>
    intro x0 x1 x2 S H locs ls hx0 hW hl hf
    rw [fX11_half_7] at hf
    cases hf
  | succ n ih =>
    intro x0 x1 x2 S H locs ls hx0 hW hl hf
    rw [fX11_half_7] at hf
    refine lv_iload_n C.1 C.2.1 dX11_half_7 rfl (lv_at hl 2 rfl) ?_
    refine lv_iload_n C.1 C.2.1 dX11_half_8 rfl (lv_at hl 1 rfl) ?_
    refine lv_icmp_ge (tgt := 26) C.1 C.2.1 dX11_half_9 rfl (fun c1 => ?_) (fun c1 => ?_)
    · have hf := (if_pos c1).symm.trans hf
      cases hf
      exact m_vret C hW dX11_half_26
    · have hf := (if_neg c1).symm.trans hf
      refine lv_aload_n C.1 C.2.1 dX11_half_12 rfl (lv_at hl 0 rfl) ?_
      refine lv_iload_n C.1 C.2.1 dX11_half_13 rfl (lv_at hl 2 rfl) ?_
      refine lv_aload_n C.1 C.2.1 dX11_half_14 rfl (lv_at hl 0 rfl) ?_
      refine lv_iload_n C.1 C.2.1 dX11_half_15 rfl (lv_at hl 1 rfl) ?_
      refine lv_iload_n C.1 C.2.1 dX11_half_16 rfl (lv_at hl 2 rfl) ?_
      refine lv_iadd C.1 C.2.1 dX11_half_17 ?_
      obtain ⟨hb2, hf⟩ := gd hf
      refine m_iald C hW hx0 hb2 dX11_half_18 ?_
      obtain ⟨hb3, hf⟩ := gd hf
      refine m_iast C hW hx0 hb3 dX11_half_19 (fun H locs hW => ?_)
      refine lv_iinc (v := x2 + (1 : Int32)) (lv' := [(2, .int (x2 + (1 : Int32))), (0, .ref (ad L x0)), (1, .int x1)]) C.1 C.2.1 dX11_half_20 hl (k := 2) rfl (congrArg (fun z => x2 + z) ic_1) (by decide) rfl (fun ls hl => ?_)
      refine lv_goto (tgt := 7) C.1 C.2.1 dX11_half_23 rfl ?_
      exact ih x0 x1 (x2 + (1 : Int32)) _ _ _ _ hx0 hW (lv_sub hl [1, 2, 0] rfl) hf

set_option maxRecDepth 100000 in
theorem cX11_half_ok {l : Launch} {G : Gv} {L : List Nat} {S : MS} {a0 : Nat} {q : MS} (ha0 : a0 < shM.1 ∧ shM.2.1 a0 = 13) (hf : fX11_half a0 S = some q) : Mt l yX11_half cX11_half 3 none (1) G shM L S [.ref (ad L a0)] none q := by
  refine m_enter (lv := [(0, .ref (ad L a0))]) (plainFor_of_name (by decide)) (Nat.le_of_ble_eq_true rfl) rfl ?_
  intro p e s m below meth c A ls C hW hl
  unfold fX11_half at hf
  refine lv_aload_n C.1 C.2.1 dX11_half_0 rfl (lv_at hl 0 rfl) ?_
  refine m_alen C hW ha0 (by decide) dX11_half_1 ?_
  refine lv_iconst C.1 C.2.1 dX11_half_2 ic_2 ?_
  refine lv_idiv C.1 C.2.1 dX11_half_3 (by decide) ?_
  refine lv_istore_n (lv' := [(1, .int ((Int32.ofNat (lnM a0)) / (2 : Int32))), (0, .ref (ad L a0))]) C.1 C.2.1 dX11_half_4 rfl hl (by decide) rfl (fun ls hl => ?_)
  refine lv_iconst C.1 C.2.1 dX11_half_5 ic_0 ?_
  refine lv_istore_n (lv' := [(2, .int (0 : Int32)), (1, .int ((Int32.ofNat (lnM a0)) / (2 : Int32))), (0, .ref (ad L a0))]) C.1 C.2.1 dX11_half_6 rfl hl (by decide) rfl (fun ls hl => ?_)
  exact kX11_half_7  C 1000 a0 ((Int32.ofNat (lnM a0)) / (2 : Int32)) (0 : Int32) _ _ _ _ ha0 hW (lv_sub hl [2, 1, 0] rfl) hf

def fX11_fault (a0 : Nat) (a1 : Int32) (S : MS) : Option (Int32 × MS) := (if a1 = (0 : Int32) then some (gI (pI S a0 0 (0 : Int32)) a0 36, pI S a0 0 (0 : Int32)) else (if a1 = (1 : Int32) then some (gI (pI S a0 0 (0 : Int32)) a0 37, pI S a0 0 (0 : Int32)) else some ((-1 : Int32), pI S a0 0 (0 : Int32))))
set_option maxRecDepth 100000 in
theorem cX11_fault_ok {l : Launch} {G : Gv} {L : List Nat} {S : MS} {a0 : Nat} {a1 : Int32} {q : (Int32 × MS)} (ha0 : a0 < shM.1 ∧ shM.2.1 a0 = 11) (hf : fX11_fault a0 a1 S = some q) : Mt l yX11_fault cX11_fault 2 (some .int) (1) G shM L S [.ref (ad L a0), .int a1] (some (.int q.1)) q.2 := by
  refine m_enter (lv := [(0, .ref (ad L a0)), (1, .int a1)]) (plainFor_of_name (by decide)) (Nat.le_of_ble_eq_true rfl) rfl ?_
  intro p e s m below meth c A ls C hW hl
  unfold fX11_fault at hf
  refine lv_aload_n C.1 C.2.1 dX11_fault_0 rfl (lv_at hl 0 rfl) ?_
  refine lv_iconst C.1 C.2.1 dX11_fault_1 ic_0 ?_
  refine m_puti C hW ha0 fpX11_163 dX11_fault_2 (fun H locs hW => ?_)
  refine lv_iload_n C.1 C.2.1 dX11_fault_5 rfl (lv_at hl 1 rfl) ?_
  refine lv_if_ne (tgt := 16) C.1 C.2.1 dX11_fault_6 rfl (fun c1 => ?_) (fun c1 => ?_)
  · have hf := (if_neg c1).symm.trans hf
    refine lv_iload_n C.1 C.2.1 dX11_fault_16 rfl (lv_at hl 1 rfl) ?_
    refine lv_iconst C.1 C.2.1 dX11_fault_17 ic_1 ?_
    refine lv_icmp_ne (tgt := 28) C.1 C.2.1 dX11_fault_18 rfl (fun c2 => ?_) (fun c2 => ?_)
    · have hf := (if_neg c2).symm.trans hf
      refine lv_iconst C.1 C.2.1 dX11_fault_28 ic_m1 ?_
      cases hf
      exact m_iret C hW dX11_fault_29
    · have hf := (if_pos c2).symm.trans hf
      refine lv_aload_n C.1 C.2.1 dX11_fault_21 rfl (lv_at hl 0 rfl) ?_
      refine m_geti C hW ha0 flX11_82 dX11_fault_22 ?_
      refine lv_goto (tgt := 29) C.1 C.2.1 dX11_fault_25 rfl ?_
      cases hf
      exact m_iret C hW dX11_fault_29
  · have hf := (if_pos c1).symm.trans hf
    refine lv_aload_n C.1 C.2.1 dX11_fault_9 rfl (lv_at hl 0 rfl) ?_
    refine m_geti C hW ha0 flX11_321 dX11_fault_10 ?_
    refine lv_goto (tgt := 29) C.1 C.2.1 dX11_fault_13 rfl ?_
    cases hf
    exact m_iret C hW dX11_fault_29

def fX11_is (a0 : Int32) (S : MS) : Option Int64 := (if a0 = (0 : Int32) then some (0 : Int64) else some (1 : Int64))
set_option maxRecDepth 100000 in
theorem cX11_is_ok {l : Launch} {G : Gv} {L : List Nat} {S : MS} {a0 : Int32} {q : Int64}  (hf : fX11_is a0 S = some q) : Mt l yX11_is cX11_is 1 (some .long) (1) G shM L S [.int a0] (some (.long q)) S := by
  refine m_enter (lv := [(0, .int a0)]) (plainFor_of_name (by decide)) (Nat.le_of_ble_eq_true rfl) rfl ?_
  intro p e s m below meth c A ls C hW hl
  unfold fX11_is at hf
  refine lv_iload_n C.1 C.2.1 dX11_is_0 rfl (lv_at hl 0 rfl) ?_
  refine lv_if_eq (tgt := 8) C.1 C.2.1 dX11_is_1 rfl (fun c1 => ?_) (fun c1 => ?_)
  · have hf := (if_pos c1).symm.trans hf
    refine lv_lconst C.1 C.2.1 dX11_is_8 lc_0 ?_
    cases hf
    exact m_lret C hW dX11_is_9
  · have hf := (if_neg c1).symm.trans hf
    refine lv_lconst C.1 C.2.1 dX11_is_4 lc_1 ?_
    refine lv_goto (tgt := 9) C.1 C.2.1 dX11_is_5 rfl ?_
    cases hf
    exact m_lret C hW dX11_is_9

def fX11_hasLaw (a0 : Nat) (a1 : Int32) (S : MS) : Option Int32 := (if bnd a1 (lnM (gR S a0 23)) = true then (if bnd a1 (lnM (gR S a0 22)) = true then (if (gI S (gR S a0 23) a1.toNatClampNeg) ≤ (gI S (gR S a0 22) a1.toNatClampNeg) then some (0 : Int32) else some (1 : Int32)) else none) else none)
set_option maxRecDepth 100000 in
theorem cX11_hasLaw_ok {l : Launch} {G : Gv} {L : List Nat} {S : MS} {a0 : Nat} {a1 : Int32} {q : Int32} (ha0 : a0 < shM.1 ∧ shM.2.1 a0 = 11) (hf : fX11_hasLaw a0 a1 S = some q) : Mt l yX11_hasLaw cX11_hasLaw 2 (some .boolean) (1) G shM L S [.ref (ad L a0), .int a1] (some (.int q)) S := by
  refine m_enter (lv := [(0, .ref (ad L a0)), (1, .int a1)]) (plainFor_of_name (by decide)) (Nat.le_of_ble_eq_true rfl) rfl ?_
  intro p e s m below meth c A ls C hW hl
  unfold fX11_hasLaw at hf
  refine lv_aload_n C.1 C.2.1 dX11_hasLaw_0 rfl (lv_at hl 0 rfl) ?_
  refine m_getr C hW ha0 flX11_73 (by decide) dX11_hasLaw_1 (fun hk1 => ?_)
  refine lv_iload_n C.1 C.2.1 dX11_hasLaw_4 rfl (lv_at hl 1 rfl) ?_
  obtain ⟨hb2, hf⟩ := gd hf
  refine m_iald C hW hk1 hb2 dX11_hasLaw_5 ?_
  refine lv_aload_n C.1 C.2.1 dX11_hasLaw_6 rfl (lv_at hl 0 rfl) ?_
  refine m_getr C hW ha0 flX11_70 (by decide) dX11_hasLaw_7 (fun hk3 => ?_)
  refine lv_iload_n C.1 C.2.1 dX11_hasLaw_10 rfl (lv_at hl 1 rfl) ?_
  obtain ⟨hb4, hf⟩ := gd hf
  refine m_iald C hW hk3 hb4 dX11_hasLaw_11 ?_
  refine lv_icmp_le (tgt := 19) C.1 C.2.1 dX11_hasLaw_12 rfl (fun c5 => ?_) (fun c5 => ?_)
  · have hf := (if_pos c5).symm.trans hf
    refine lv_iconst C.1 C.2.1 dX11_hasLaw_19 ic_0 ?_
    cases hf
    exact m_zret C hW rfl dX11_hasLaw_20
  · have hf := (if_neg c5).symm.trans hf
    refine lv_iconst C.1 C.2.1 dX11_hasLaw_15 ic_1 ?_
    refine lv_goto (tgt := 20) C.1 C.2.1 dX11_hasLaw_16 rfl ?_
    cases hf
    exact m_zret C hW rfl dX11_hasLaw_20

def fX11_starts_118 (K91 : Nat → Int32 → Int32 → MS → Option MS) (x0 : Nat) (x1 : Int32) (x2 : Int32) (S : MS) : Option MS := (if bnd (((4 : Int32) * x1) + x2) (lnM (gR S x0 54)) = true then K91 x0 x1 (x2 + (1 : Int32)) (pI S (gR S x0 54) ((((4 : Int32) * x1) + x2).toNatClampNeg) (0 : Int32)) else none)
def fX11_starts_91  : Nat → Nat → Int32 → Int32 → MS → Option MS
  | 0, _, _, _, _ => none
  | n + 1, x0, x1, x2, S => (if (4 : Int32) ≤ x2 then some S else (if bnd (((4 : Int32) * x1) + x2) (lnM (gR S x0 52)) = true then (if bnd (((4 : Int32) * x1) + x2) (lnM (gR (pI S (gR S x0 52) ((((4 : Int32) * x1) + x2).toNatClampNeg) (0 : Int32)) x0 53)) = true then fX11_starts_118 (fX11_starts_91  n) x0 x1 x2 (pI (pI S (gR S x0 52) ((((4 : Int32) * x1) + x2).toNatClampNeg) (0 : Int32)) (gR (pI S (gR S x0 52) ((((4 : Int32) * x1) + x2).toNatClampNeg) (0 : Int32)) x0 53) ((((4 : Int32) * x1) + x2).toNatClampNeg) (0 : Int32)) else none) else none))
def fX11_starts_82  (x0 : Nat) (x1 : Int32) (S : MS) : Option MS := (if bnd x1 (lnM (gR S x0 51)) = true then fX11_starts_91  1000 x0 x1 (0 : Int32) (pI S (gR S x0 51) x1.toNatClampNeg (0 : Int32)) else none)
def fX11_starts_58  (x0 : Nat) (x1 : Int32) (S : MS) : Option MS := (if bnd x1 (lnM (gR S x0 49)) = true then (if bnd (6 : Int32) (lnM (gR (pI S (gR S x0 49) x1.toNatClampNeg (0 : Int32)) x0 3)) = true then (if bnd x1 (lnM (gR (pI S (gR S x0 49) x1.toNatClampNeg (0 : Int32)) x0 50)) = true then fX11_starts_82  x0 x1 (pI (pI S (gR S x0 49) x1.toNatClampNeg (0 : Int32)) (gR (pI S (gR S x0 49) x1.toNatClampNeg (0 : Int32)) x0 50) x1.toNatClampNeg (((1 : Int32) <<< ((gI (pI S (gR S x0 49) x1.toNatClampNeg (0 : Int32)) (gR (pI S (gR S x0 49) x1.toNatClampNeg (0 : Int32)) x0 3) (6 : Int32).toNatClampNeg) &&& 31)) - (1 : Int32))) else none) else none) else none)
def fX11_starts_39  (x0 : Nat) (x1 : Int32) (S : MS) : Option MS := (if bnd (3 : Int32) (lnM (gR S x0 3)) = true then (if bnd x1 (lnM (gR S x0 47)) = true then (if bnd x1 (lnM (gR (pI S (gR S x0 47) x1.toNatClampNeg (gI S (gR S x0 3) (3 : Int32).toNatClampNeg)) x0 48)) = true then fX11_starts_58  x0 x1 (pI (pI S (gR S x0 47) x1.toNatClampNeg (gI S (gR S x0 3) (3 : Int32).toNatClampNeg)) (gR (pI S (gR S x0 47) x1.toNatClampNeg (gI S (gR S x0 3) (3 : Int32).toNatClampNeg)) x0 48) x1.toNatClampNeg (0 : Int32)) else none) else none) else none)
def fX11_starts_20  (x0 : Nat) (x1 : Int32) (S : MS) : Option MS := (if bnd x1 (lnM (gR S x0 45)) = true then (if bnd (2 : Int32) (lnM (gR (pI S (gR S x0 45) x1.toNatClampNeg (0 : Int32)) x0 3)) = true then (if bnd x1 (lnM (gR (pI S (gR S x0 45) x1.toNatClampNeg (0 : Int32)) x0 46)) = true then fX11_starts_39  x0 x1 (pI (pI S (gR S x0 45) x1.toNatClampNeg (0 : Int32)) (gR (pI S (gR S x0 45) x1.toNatClampNeg (0 : Int32)) x0 46) x1.toNatClampNeg (gI (pI S (gR S x0 45) x1.toNatClampNeg (0 : Int32)) (gR (pI S (gR S x0 45) x1.toNatClampNeg (0 : Int32)) x0 3) (2 : Int32).toNatClampNeg)) else none) else none) else none)
def fX11_starts (a0 : Nat) (a1 : Int32) (S : MS) : Option MS := (if bnd a1 (lnM (gR S a0 43)) = true then (if bnd (11 : Int32) (lnM (gR (pI S (gR S a0 43) a1.toNatClampNeg (0 : Int32)) a0 3)) = true then (if bnd a1 (lnM (gR (pI S (gR S a0 43) a1.toNatClampNeg (0 : Int32)) a0 44)) = true then fX11_starts_20  a0 a1 (pI (pI S (gR S a0 43) a1.toNatClampNeg (0 : Int32)) (gR (pI S (gR S a0 43) a1.toNatClampNeg (0 : Int32)) a0 44) a1.toNatClampNeg (gI (pI S (gR S a0 43) a1.toNatClampNeg (0 : Int32)) (gR (pI S (gR S a0 43) a1.toNatClampNeg (0 : Int32)) a0 3) (11 : Int32).toNatClampNeg)) else none) else none) else none)
set_option maxRecDepth 100000 in
theorem kX11_starts_118 {p : Program} {l : Launch} {e : Env} {s : State} {m : MethodId} {av : Array Value} {below : List Frame} {meth : Method} {c : Code} {A : Nat → Prop} {G : Gv} {L : List Nat} {q : MS} {K91 : Nat → Int32 → Int32 → MS → Option MS} (hK91 : ∀ (x0 : Nat) (x1 : Int32) (x2 : Int32) (S : MS) (H : Heap) (locs : List Loc) (ls : Array Slot), (x0 < shM.1 ∧ shM.2.1 x0 = 11) → mW G shM L S A s H locs → lv_has ls 3 [(0, .ref (ad L x0)), (1, .int x1), (2, .int x2)] → K91 x0 x1 x2 S = some q → W p l e (rmd (1)) s m av below meth c H locs 0 0 (MQ below (mQ G shM L q none A) av s 0 0 A) (F0 m 91 ls [])) (C : mC p s m av meth c cX11_starts RX11 3 none) : ∀ (x0 : Nat) (x1 : Int32) (x2 : Int32) (S : MS) (H : Heap) (locs : List Loc) (ls : Array Slot), (x0 < shM.1 ∧ shM.2.1 x0 = 11) → mW G shM L S A s H locs → lv_has ls 3 [(0, .ref (ad L x0)), (1, .int x1), (2, .int x2)] → fX11_starts_118 K91 x0 x1 x2 S = some q → W p l e (rmd (1)) s m av below meth c H locs 0 0 (MQ below (mQ G shM L q none A) av s 0 0 A) (F0 m 118 ls []) := by
  intro x0 x1 x2 S H locs ls hx0 hW hl hf
  unfold fX11_starts_118 at hf
  refine lv_aload_n C.1 C.2.1 dX11_starts_118 rfl (lv_at hl 0 rfl) ?_
  refine m_getr C hW hx0 flX11_126 (by decide) dX11_starts_119 (fun hk1 => ?_)
  refine lv_iconst C.1 C.2.1 dX11_starts_122 ic_4 ?_
  refine lv_iload_n C.1 C.2.1 dX11_starts_123 rfl (lv_at hl 1 rfl) ?_
  refine lv_imul C.1 C.2.1 dX11_starts_124 ?_
  refine lv_iload_n C.1 C.2.1 dX11_starts_125 rfl (lv_at hl 2 rfl) ?_
  refine lv_iadd C.1 C.2.1 dX11_starts_126 ?_
  refine lv_iconst C.1 C.2.1 dX11_starts_127 ic_0 ?_
  obtain ⟨hb2, hf⟩ := gd hf
  refine m_iast C hW hk1 hb2 dX11_starts_128 (fun H locs hW => ?_)
  refine lv_iinc (v := x2 + (1 : Int32)) (lv' := [(2, .int (x2 + (1 : Int32))), (0, .ref (ad L x0)), (1, .int x1)]) C.1 C.2.1 dX11_starts_129 hl (k := 2) rfl (congrArg (fun z => x2 + z) ic_1) (by decide) rfl (fun ls hl => ?_)
  refine lv_goto (tgt := 91) C.1 C.2.1 dX11_starts_132 rfl ?_
  exact hK91 x0 x1 (x2 + (1 : Int32)) _ _ _ _ hx0 hW (lv_sub hl [1, 2, 0] rfl) hf

set_option maxRecDepth 100000 in
theorem kX11_starts_91 {p : Program} {l : Launch} {e : Env} {s : State} {m : MethodId} {av : Array Value} {below : List Frame} {meth : Method} {c : Code} {A : Nat → Prop} {G : Gv} {L : List Nat} {q : MS}  (C : mC p s m av meth c cX11_starts RX11 3 none) : ∀ (n : Nat) (x0 : Nat) (x1 : Int32) (x2 : Int32) (S : MS) (H : Heap) (locs : List Loc) (ls : Array Slot), (x0 < shM.1 ∧ shM.2.1 x0 = 11) → mW G shM L S A s H locs → lv_has ls 3 [(0, .ref (ad L x0)), (1, .int x1), (2, .int x2)] → fX11_starts_91  n x0 x1 x2 S = some q → W p l e (rmd (1)) s m av below meth c H locs 0 0 (MQ below (mQ G shM L q none A) av s 0 0 A) (F0 m 91 ls []) := by
  intro n
  induction n with
  | zero =>
    intro x0 x1 x2 S H locs ls hx0 hW hl hf
    rw [fX11_starts_91] at hf
    cases hf
  | succ n ih =>
    intro x0 x1 x2 S H locs ls hx0 hW hl hf
    rw [fX11_starts_91] at hf
    refine lv_iload_n C.1 C.2.1 dX11_starts_91 rfl (lv_at hl 2 rfl) ?_
    refine lv_iconst C.1 C.2.1 dX11_starts_92 ic_4 ?_
    refine lv_icmp_ge (tgt := 135) C.1 C.2.1 dX11_starts_93 rfl (fun c3 => ?_) (fun c3 => ?_)
    · have hf := (if_pos c3).symm.trans hf
      cases hf
      exact m_vret C hW dX11_starts_135
    · have hf := (if_neg c3).symm.trans hf
      refine lv_aload_n C.1 C.2.1 dX11_starts_96 rfl (lv_at hl 0 rfl) ?_
      refine m_getr C hW hx0 flX11_120 (by decide) dX11_starts_97 (fun hk4 => ?_)
      refine lv_iconst C.1 C.2.1 dX11_starts_100 ic_4 ?_
      refine lv_iload_n C.1 C.2.1 dX11_starts_101 rfl (lv_at hl 1 rfl) ?_
      refine lv_imul C.1 C.2.1 dX11_starts_102 ?_
      refine lv_iload_n C.1 C.2.1 dX11_starts_103 rfl (lv_at hl 2 rfl) ?_
      refine lv_iadd C.1 C.2.1 dX11_starts_104 ?_
      refine lv_iconst C.1 C.2.1 dX11_starts_105 ic_0 ?_
      obtain ⟨hb5, hf⟩ := gd hf
      refine m_iast C hW hk4 hb5 dX11_starts_106 (fun H locs hW => ?_)
      refine lv_aload_n C.1 C.2.1 dX11_starts_107 rfl (lv_at hl 0 rfl) ?_
      refine m_getr C hW hx0 flX11_123 (by decide) dX11_starts_108 (fun hk6 => ?_)
      refine lv_iconst C.1 C.2.1 dX11_starts_111 ic_4 ?_
      refine lv_iload_n C.1 C.2.1 dX11_starts_112 rfl (lv_at hl 1 rfl) ?_
      refine lv_imul C.1 C.2.1 dX11_starts_113 ?_
      refine lv_iload_n C.1 C.2.1 dX11_starts_114 rfl (lv_at hl 2 rfl) ?_
      refine lv_iadd C.1 C.2.1 dX11_starts_115 ?_
      refine lv_iconst C.1 C.2.1 dX11_starts_116 ic_0 ?_
      obtain ⟨hb7, hf⟩ := gd hf
      refine m_iast C hW hk6 hb7 dX11_starts_117 (fun H locs hW => ?_)
      exact kX11_starts_118 ih C x0 x1 x2 _ _ _ _ hx0 hW (lv_sub hl [0, 1, 2] rfl) hf

set_option maxRecDepth 100000 in
theorem kX11_starts_82 {p : Program} {l : Launch} {e : Env} {s : State} {m : MethodId} {av : Array Value} {below : List Frame} {meth : Method} {c : Code} {A : Nat → Prop} {G : Gv} {L : List Nat} {q : MS}  (C : mC p s m av meth c cX11_starts RX11 3 none) : ∀ (x0 : Nat) (x1 : Int32) (S : MS) (H : Heap) (locs : List Loc) (ls : Array Slot), (x0 < shM.1 ∧ shM.2.1 x0 = 11) → mW G shM L S A s H locs → lv_has ls 3 [(0, .ref (ad L x0)), (1, .int x1)] → fX11_starts_82  x0 x1 S = some q → W p l e (rmd (1)) s m av below meth c H locs 0 0 (MQ below (mQ G shM L q none A) av s 0 0 A) (F0 m 82 ls []) := by
  intro x0 x1 S H locs ls hx0 hW hl hf
  unfold fX11_starts_82 at hf
  refine lv_aload_n C.1 C.2.1 dX11_starts_82 rfl (lv_at hl 0 rfl) ?_
  refine m_getr C hW hx0 flX11_117 (by decide) dX11_starts_83 (fun hk8 => ?_)
  refine lv_iload_n C.1 C.2.1 dX11_starts_86 rfl (lv_at hl 1 rfl) ?_
  refine lv_iconst C.1 C.2.1 dX11_starts_87 ic_0 ?_
  obtain ⟨hb9, hf⟩ := gd hf
  refine m_iast C hW hk8 hb9 dX11_starts_88 (fun H locs hW => ?_)
  refine lv_iconst C.1 C.2.1 dX11_starts_89 ic_0 ?_
  refine lv_istore_n (lv' := [(2, .int (0 : Int32)), (0, .ref (ad L x0)), (1, .int x1)]) C.1 C.2.1 dX11_starts_90 rfl hl (by decide) rfl (fun ls hl => ?_)
  exact kX11_starts_91  C 1000 x0 x1 (0 : Int32) _ _ _ _ hx0 hW (lv_sub hl [1, 2, 0] rfl) hf

set_option maxRecDepth 100000 in
theorem kX11_starts_58 {p : Program} {l : Launch} {e : Env} {s : State} {m : MethodId} {av : Array Value} {below : List Frame} {meth : Method} {c : Code} {A : Nat → Prop} {G : Gv} {L : List Nat} {q : MS}  (C : mC p s m av meth c cX11_starts RX11 3 none) : ∀ (x0 : Nat) (x1 : Int32) (S : MS) (H : Heap) (locs : List Loc) (ls : Array Slot), (x0 < shM.1 ∧ shM.2.1 x0 = 11) → mW G shM L S A s H locs → lv_has ls 3 [(0, .ref (ad L x0)), (1, .int x1)] → fX11_starts_58  x0 x1 S = some q → W p l e (rmd (1)) s m av below meth c H locs 0 0 (MQ below (mQ G shM L q none A) av s 0 0 A) (F0 m 58 ls []) := by
  intro x0 x1 S H locs ls hx0 hW hl hf
  unfold fX11_starts_58 at hf
  refine lv_aload_n C.1 C.2.1 dX11_starts_58 rfl (lv_at hl 0 rfl) ?_
  refine m_getr C hW hx0 flX11_111 (by decide) dX11_starts_59 (fun hk10 => ?_)
  refine lv_iload_n C.1 C.2.1 dX11_starts_62 rfl (lv_at hl 1 rfl) ?_
  refine lv_iconst C.1 C.2.1 dX11_starts_63 ic_0 ?_
  obtain ⟨hb11, hf⟩ := gd hf
  refine m_iast C hW hk10 hb11 dX11_starts_64 (fun H locs hW => ?_)
  refine lv_aload_n C.1 C.2.1 dX11_starts_65 rfl (lv_at hl 0 rfl) ?_
  refine m_getr C hW hx0 flX11_114 (by decide) dX11_starts_66 (fun hk12 => ?_)
  refine lv_iload_n C.1 C.2.1 dX11_starts_69 rfl (lv_at hl 1 rfl) ?_
  refine lv_iconst C.1 C.2.1 dX11_starts_70 ic_1 ?_
  refine lv_aload_n C.1 C.2.1 dX11_starts_71 rfl (lv_at hl 0 rfl) ?_
  refine m_getr C hW hx0 flX11_13 (by decide) dX11_starts_72 (fun hk13 => ?_)
  refine lv_bipush C.1 C.2.1 dX11_starts_75 bp_6 ?_
  obtain ⟨hb14, hf⟩ := gd hf
  refine m_iald C hW hk13 hb14 dX11_starts_77 ?_
  refine lv_ishl C.1 C.2.1 dX11_starts_78 ?_
  refine lv_iconst C.1 C.2.1 dX11_starts_79 ic_1 ?_
  refine lv_isub C.1 C.2.1 dX11_starts_80 ?_
  obtain ⟨hb15, hf⟩ := gd hf
  refine m_iast C hW hk12 hb15 dX11_starts_81 (fun H locs hW => ?_)
  exact kX11_starts_82  C x0 x1 _ _ _ _ hx0 hW (lv_sub hl [0, 1] rfl) hf

set_option maxRecDepth 100000 in
theorem kX11_starts_39 {p : Program} {l : Launch} {e : Env} {s : State} {m : MethodId} {av : Array Value} {below : List Frame} {meth : Method} {c : Code} {A : Nat → Prop} {G : Gv} {L : List Nat} {q : MS}  (C : mC p s m av meth c cX11_starts RX11 3 none) : ∀ (x0 : Nat) (x1 : Int32) (S : MS) (H : Heap) (locs : List Loc) (ls : Array Slot), (x0 < shM.1 ∧ shM.2.1 x0 = 11) → mW G shM L S A s H locs → lv_has ls 3 [(0, .ref (ad L x0)), (1, .int x1)] → fX11_starts_39  x0 x1 S = some q → W p l e (rmd (1)) s m av below meth c H locs 0 0 (MQ below (mQ G shM L q none A) av s 0 0 A) (F0 m 39 ls []) := by
  intro x0 x1 S H locs ls hx0 hW hl hf
  unfold fX11_starts_39 at hf
  refine lv_aload_n C.1 C.2.1 dX11_starts_39 rfl (lv_at hl 0 rfl) ?_
  refine m_getr C hW hx0 flX11_105 (by decide) dX11_starts_40 (fun hk16 => ?_)
  refine lv_iload_n C.1 C.2.1 dX11_starts_43 rfl (lv_at hl 1 rfl) ?_
  refine lv_aload_n C.1 C.2.1 dX11_starts_44 rfl (lv_at hl 0 rfl) ?_
  refine m_getr C hW hx0 flX11_13 (by decide) dX11_starts_45 (fun hk17 => ?_)
  refine lv_iconst C.1 C.2.1 dX11_starts_48 ic_3 ?_
  obtain ⟨hb18, hf⟩ := gd hf
  refine m_iald C hW hk17 hb18 dX11_starts_49 ?_
  obtain ⟨hb19, hf⟩ := gd hf
  refine m_iast C hW hk16 hb19 dX11_starts_50 (fun H locs hW => ?_)
  refine lv_aload_n C.1 C.2.1 dX11_starts_51 rfl (lv_at hl 0 rfl) ?_
  refine m_getr C hW hx0 flX11_108 (by decide) dX11_starts_52 (fun hk20 => ?_)
  refine lv_iload_n C.1 C.2.1 dX11_starts_55 rfl (lv_at hl 1 rfl) ?_
  refine lv_iconst C.1 C.2.1 dX11_starts_56 ic_0 ?_
  obtain ⟨hb21, hf⟩ := gd hf
  refine m_iast C hW hk20 hb21 dX11_starts_57 (fun H locs hW => ?_)
  exact kX11_starts_58  C x0 x1 _ _ _ _ hx0 hW (lv_sub hl [0, 1] rfl) hf

set_option maxRecDepth 100000 in
theorem kX11_starts_20 {p : Program} {l : Launch} {e : Env} {s : State} {m : MethodId} {av : Array Value} {below : List Frame} {meth : Method} {c : Code} {A : Nat → Prop} {G : Gv} {L : List Nat} {q : MS}  (C : mC p s m av meth c cX11_starts RX11 3 none) : ∀ (x0 : Nat) (x1 : Int32) (S : MS) (H : Heap) (locs : List Loc) (ls : Array Slot), (x0 < shM.1 ∧ shM.2.1 x0 = 11) → mW G shM L S A s H locs → lv_has ls 3 [(0, .ref (ad L x0)), (1, .int x1)] → fX11_starts_20  x0 x1 S = some q → W p l e (rmd (1)) s m av below meth c H locs 0 0 (MQ below (mQ G shM L q none A) av s 0 0 A) (F0 m 20 ls []) := by
  intro x0 x1 S H locs ls hx0 hW hl hf
  unfold fX11_starts_20 at hf
  refine lv_aload_n C.1 C.2.1 dX11_starts_20 rfl (lv_at hl 0 rfl) ?_
  refine m_getr C hW hx0 flX11_99 (by decide) dX11_starts_21 (fun hk22 => ?_)
  refine lv_iload_n C.1 C.2.1 dX11_starts_24 rfl (lv_at hl 1 rfl) ?_
  refine lv_iconst C.1 C.2.1 dX11_starts_25 ic_0 ?_
  obtain ⟨hb23, hf⟩ := gd hf
  refine m_iast C hW hk22 hb23 dX11_starts_26 (fun H locs hW => ?_)
  refine lv_aload_n C.1 C.2.1 dX11_starts_27 rfl (lv_at hl 0 rfl) ?_
  refine m_getr C hW hx0 flX11_102 (by decide) dX11_starts_28 (fun hk24 => ?_)
  refine lv_iload_n C.1 C.2.1 dX11_starts_31 rfl (lv_at hl 1 rfl) ?_
  refine lv_aload_n C.1 C.2.1 dX11_starts_32 rfl (lv_at hl 0 rfl) ?_
  refine m_getr C hW hx0 flX11_13 (by decide) dX11_starts_33 (fun hk25 => ?_)
  refine lv_iconst C.1 C.2.1 dX11_starts_36 ic_2 ?_
  obtain ⟨hb26, hf⟩ := gd hf
  refine m_iald C hW hk25 hb26 dX11_starts_37 ?_
  obtain ⟨hb27, hf⟩ := gd hf
  refine m_iast C hW hk24 hb27 dX11_starts_38 (fun H locs hW => ?_)
  exact kX11_starts_39  C x0 x1 _ _ _ _ hx0 hW (lv_sub hl [0, 1] rfl) hf

set_option maxRecDepth 100000 in
theorem cX11_starts_ok {l : Launch} {G : Gv} {L : List Nat} {S : MS} {a0 : Nat} {a1 : Int32} {q : MS} (ha0 : a0 < shM.1 ∧ shM.2.1 a0 = 11) (hf : fX11_starts a0 a1 S = some q) : Mt l yX11_starts cX11_starts 3 none (1) G shM L S [.ref (ad L a0), .int a1] none q := by
  refine m_enter (lv := [(0, .ref (ad L a0)), (1, .int a1)]) (plainFor_of_name (by decide)) (Nat.le_of_ble_eq_true rfl) rfl ?_
  intro p e s m below meth c A ls C hW hl
  unfold fX11_starts at hf
  refine lv_aload_n C.1 C.2.1 dX11_starts_0 rfl (lv_at hl 0 rfl) ?_
  refine m_getr C hW ha0 flX11_93 (by decide) dX11_starts_1 (fun hk28 => ?_)
  refine lv_iload_n C.1 C.2.1 dX11_starts_4 rfl (lv_at hl 1 rfl) ?_
  refine lv_iconst C.1 C.2.1 dX11_starts_5 ic_0 ?_
  obtain ⟨hb29, hf⟩ := gd hf
  refine m_iast C hW hk28 hb29 dX11_starts_6 (fun H locs hW => ?_)
  refine lv_aload_n C.1 C.2.1 dX11_starts_7 rfl (lv_at hl 0 rfl) ?_
  refine m_getr C hW ha0 flX11_96 (by decide) dX11_starts_8 (fun hk30 => ?_)
  refine lv_iload_n C.1 C.2.1 dX11_starts_11 rfl (lv_at hl 1 rfl) ?_
  refine lv_aload_n C.1 C.2.1 dX11_starts_12 rfl (lv_at hl 0 rfl) ?_
  refine m_getr C hW ha0 flX11_13 (by decide) dX11_starts_13 (fun hk31 => ?_)
  refine lv_bipush C.1 C.2.1 dX11_starts_16 bp_11 ?_
  obtain ⟨hb32, hf⟩ := gd hf
  refine m_iald C hW hk31 hb32 dX11_starts_18 ?_
  obtain ⟨hb33, hf⟩ := gd hf
  refine m_iast C hW hk30 hb33 dX11_starts_19 (fun H locs hW => ?_)
  exact kX11_starts_20  C a0 a1 _ _ _ _ ha0 hW (lv_sub hl [0, 1] rfl) hf

def fX11_copies_155 (K110 : Nat → Int32 → Int32 → Int32 → MS → Option MS) (x0 : Nat) (x1 : Int32) (x2 : Int32) (x3 : Int32) (S : MS) : Option MS := (if bnd (((4 : Int32) * x2) + x3) (lnM (gR S x0 54)) = true then (if bnd (((4 : Int32) * x1) + x3) (lnM (gR S x0 54)) = true then K110 x0 x1 x2 (x3 + (1 : Int32)) (pI S (gR S x0 54) ((((4 : Int32) * x1) + x3).toNatClampNeg) (gI S (gR S x0 54) (((4 : Int32) * x2) + x3).toNatClampNeg)) else none) else none)
def fX11_copies_110  : Nat → Nat → Int32 → Int32 → Int32 → MS → Option MS
  | 0, _, _, _, _, _ => none
  | n + 1, x0, x1, x2, x3, S => (if (4 : Int32) ≤ x3 then some S else (if bnd (((4 : Int32) * x2) + x3) (lnM (gR S x0 52)) = true then (if bnd (((4 : Int32) * x1) + x3) (lnM (gR S x0 52)) = true then (if bnd (((4 : Int32) * x2) + x3) (lnM (gR (pI S (gR S x0 52) ((((4 : Int32) * x1) + x3).toNatClampNeg) (gI S (gR S x0 52) (((4 : Int32) * x2) + x3).toNatClampNeg)) x0 53)) = true then (if bnd (((4 : Int32) * x1) + x3) (lnM (gR (pI S (gR S x0 52) ((((4 : Int32) * x1) + x3).toNatClampNeg) (gI S (gR S x0 52) (((4 : Int32) * x2) + x3).toNatClampNeg)) x0 53)) = true then fX11_copies_155 (fX11_copies_110  n) x0 x1 x2 x3 (pI (pI S (gR S x0 52) ((((4 : Int32) * x1) + x3).toNatClampNeg) (gI S (gR S x0 52) (((4 : Int32) * x2) + x3).toNatClampNeg)) (gR (pI S (gR S x0 52) ((((4 : Int32) * x1) + x3).toNatClampNeg) (gI S (gR S x0 52) (((4 : Int32) * x2) + x3).toNatClampNeg)) x0 53) ((((4 : Int32) * x1) + x3).toNatClampNeg) (gI (pI S (gR S x0 52) ((((4 : Int32) * x1) + x3).toNatClampNeg) (gI S (gR S x0 52) (((4 : Int32) * x2) + x3).toNatClampNeg)) (gR (pI S (gR S x0 52) ((((4 : Int32) * x1) + x3).toNatClampNeg) (gI S (gR S x0 52) (((4 : Int32) * x2) + x3).toNatClampNeg)) x0 53) (((4 : Int32) * x2) + x3).toNatClampNeg)) else none) else none) else none) else none))
def fX11_copies_96  (x0 : Nat) (x1 : Int32) (x2 : Int32) (S : MS) : Option MS := (if bnd x2 (lnM (gR S x0 51)) = true then (if bnd x1 (lnM (gR S x0 51)) = true then fX11_copies_110  1000 x0 x1 x2 (0 : Int32) (pI S (gR S x0 51) x1.toNatClampNeg (gI S (gR S x0 51) x2.toNatClampNeg)) else none) else none)
def fX11_copies_72  (x0 : Nat) (x1 : Int32) (x2 : Int32) (S : MS) : Option MS := (if bnd x2 (lnM (gR S x0 49)) = true then (if bnd x1 (lnM (gR S x0 49)) = true then (if bnd x2 (lnM (gR (pI S (gR S x0 49) x1.toNatClampNeg (gI S (gR S x0 49) x2.toNatClampNeg)) x0 50)) = true then (if bnd x1 (lnM (gR (pI S (gR S x0 49) x1.toNatClampNeg (gI S (gR S x0 49) x2.toNatClampNeg)) x0 50)) = true then fX11_copies_96  x0 x1 x2 (pI (pI S (gR S x0 49) x1.toNatClampNeg (gI S (gR S x0 49) x2.toNatClampNeg)) (gR (pI S (gR S x0 49) x1.toNatClampNeg (gI S (gR S x0 49) x2.toNatClampNeg)) x0 50) x1.toNatClampNeg (gI (pI S (gR S x0 49) x1.toNatClampNeg (gI S (gR S x0 49) x2.toNatClampNeg)) (gR (pI S (gR S x0 49) x1.toNatClampNeg (gI S (gR S x0 49) x2.toNatClampNeg)) x0 50) x2.toNatClampNeg)) else none) else none) else none) else none)
def fX11_copies_48  (x0 : Nat) (x1 : Int32) (x2 : Int32) (S : MS) : Option MS := (if bnd x2 (lnM (gR S x0 47)) = true then (if bnd x1 (lnM (gR S x0 47)) = true then (if bnd x2 (lnM (gR (pI S (gR S x0 47) x1.toNatClampNeg (gI S (gR S x0 47) x2.toNatClampNeg)) x0 48)) = true then (if bnd x1 (lnM (gR (pI S (gR S x0 47) x1.toNatClampNeg (gI S (gR S x0 47) x2.toNatClampNeg)) x0 48)) = true then fX11_copies_72  x0 x1 x2 (pI (pI S (gR S x0 47) x1.toNatClampNeg (gI S (gR S x0 47) x2.toNatClampNeg)) (gR (pI S (gR S x0 47) x1.toNatClampNeg (gI S (gR S x0 47) x2.toNatClampNeg)) x0 48) x1.toNatClampNeg (gI (pI S (gR S x0 47) x1.toNatClampNeg (gI S (gR S x0 47) x2.toNatClampNeg)) (gR (pI S (gR S x0 47) x1.toNatClampNeg (gI S (gR S x0 47) x2.toNatClampNeg)) x0 48) x2.toNatClampNeg)) else none) else none) else none) else none)
def fX11_copies_24  (x0 : Nat) (x1 : Int32) (x2 : Int32) (S : MS) : Option MS := (if bnd x2 (lnM (gR S x0 45)) = true then (if bnd x1 (lnM (gR S x0 45)) = true then (if bnd x2 (lnM (gR (pI S (gR S x0 45) x1.toNatClampNeg (gI S (gR S x0 45) x2.toNatClampNeg)) x0 46)) = true then (if bnd x1 (lnM (gR (pI S (gR S x0 45) x1.toNatClampNeg (gI S (gR S x0 45) x2.toNatClampNeg)) x0 46)) = true then fX11_copies_48  x0 x1 x2 (pI (pI S (gR S x0 45) x1.toNatClampNeg (gI S (gR S x0 45) x2.toNatClampNeg)) (gR (pI S (gR S x0 45) x1.toNatClampNeg (gI S (gR S x0 45) x2.toNatClampNeg)) x0 46) x1.toNatClampNeg (gI (pI S (gR S x0 45) x1.toNatClampNeg (gI S (gR S x0 45) x2.toNatClampNeg)) (gR (pI S (gR S x0 45) x1.toNatClampNeg (gI S (gR S x0 45) x2.toNatClampNeg)) x0 46) x2.toNatClampNeg)) else none) else none) else none) else none)
def fX11_copies (a0 : Nat) (a1 : Int32) (a2 : Int32) (S : MS) : Option MS := (if bnd a2 (lnM (gR S a0 43)) = true then (if bnd a1 (lnM (gR S a0 43)) = true then (if bnd a2 (lnM (gR (pI S (gR S a0 43) a1.toNatClampNeg (gI S (gR S a0 43) a2.toNatClampNeg)) a0 44)) = true then (if bnd a1 (lnM (gR (pI S (gR S a0 43) a1.toNatClampNeg (gI S (gR S a0 43) a2.toNatClampNeg)) a0 44)) = true then fX11_copies_24  a0 a1 a2 (pI (pI S (gR S a0 43) a1.toNatClampNeg (gI S (gR S a0 43) a2.toNatClampNeg)) (gR (pI S (gR S a0 43) a1.toNatClampNeg (gI S (gR S a0 43) a2.toNatClampNeg)) a0 44) a1.toNatClampNeg (gI (pI S (gR S a0 43) a1.toNatClampNeg (gI S (gR S a0 43) a2.toNatClampNeg)) (gR (pI S (gR S a0 43) a1.toNatClampNeg (gI S (gR S a0 43) a2.toNatClampNeg)) a0 44) a2.toNatClampNeg)) else none) else none) else none) else none)
set_option maxRecDepth 100000 in
theorem kX11_copies_155 {p : Program} {l : Launch} {e : Env} {s : State} {m : MethodId} {av : Array Value} {below : List Frame} {meth : Method} {c : Code} {A : Nat → Prop} {G : Gv} {L : List Nat} {q : MS} {K110 : Nat → Int32 → Int32 → Int32 → MS → Option MS} (hK110 : ∀ (x0 : Nat) (x1 : Int32) (x2 : Int32) (x3 : Int32) (S : MS) (H : Heap) (locs : List Loc) (ls : Array Slot), (x0 < shM.1 ∧ shM.2.1 x0 = 11) → mW G shM L S A s H locs → lv_has ls 4 [(0, .ref (ad L x0)), (1, .int x1), (2, .int x2), (3, .int x3)] → K110 x0 x1 x2 x3 S = some q → W p l e (rmd (1)) s m av below meth c H locs 0 0 (MQ below (mQ G shM L q none A) av s 0 0 A) (F0 m 110 ls [])) (C : mC p s m av meth c cX11_copies RX11 4 none) : ∀ (x0 : Nat) (x1 : Int32) (x2 : Int32) (x3 : Int32) (S : MS) (H : Heap) (locs : List Loc) (ls : Array Slot), (x0 < shM.1 ∧ shM.2.1 x0 = 11) → mW G shM L S A s H locs → lv_has ls 4 [(0, .ref (ad L x0)), (1, .int x1), (2, .int x2), (3, .int x3)] → fX11_copies_155 K110 x0 x1 x2 x3 S = some q → W p l e (rmd (1)) s m av below meth c H locs 0 0 (MQ below (mQ G shM L q none A) av s 0 0 A) (F0 m 155 ls []) := by
  intro x0 x1 x2 x3 S H locs ls hx0 hW hl hf
  unfold fX11_copies_155 at hf
  refine lv_aload_n C.1 C.2.1 dX11_copies_155 rfl (lv_at hl 0 rfl) ?_
  refine m_getr C hW hx0 flX11_126 (by decide) dX11_copies_156 (fun hk1 => ?_)
  refine lv_iconst C.1 C.2.1 dX11_copies_159 ic_4 ?_
  refine lv_iload_n C.1 C.2.1 dX11_copies_160 rfl (lv_at hl 1 rfl) ?_
  refine lv_imul C.1 C.2.1 dX11_copies_161 ?_
  refine lv_iload_n C.1 C.2.1 dX11_copies_162 rfl (lv_at hl 3 rfl) ?_
  refine lv_iadd C.1 C.2.1 dX11_copies_163 ?_
  refine lv_aload_n C.1 C.2.1 dX11_copies_164 rfl (lv_at hl 0 rfl) ?_
  refine m_getr C hW hx0 flX11_126 (by decide) dX11_copies_165 (fun hk2 => ?_)
  refine lv_iconst C.1 C.2.1 dX11_copies_168 ic_4 ?_
  refine lv_iload_n C.1 C.2.1 dX11_copies_169 rfl (lv_at hl 2 rfl) ?_
  refine lv_imul C.1 C.2.1 dX11_copies_170 ?_
  refine lv_iload_n C.1 C.2.1 dX11_copies_171 rfl (lv_at hl 3 rfl) ?_
  refine lv_iadd C.1 C.2.1 dX11_copies_172 ?_
  obtain ⟨hb3, hf⟩ := gd hf
  refine m_iald C hW hk2 hb3 dX11_copies_173 ?_
  obtain ⟨hb4, hf⟩ := gd hf
  refine m_iast C hW hk1 hb4 dX11_copies_174 (fun H locs hW => ?_)
  refine lv_iinc (v := x3 + (1 : Int32)) (lv' := [(3, .int (x3 + (1 : Int32))), (0, .ref (ad L x0)), (1, .int x1), (2, .int x2)]) C.1 C.2.1 dX11_copies_175 hl (k := 3) rfl (congrArg (fun z => x3 + z) ic_1) (by decide) rfl (fun ls hl => ?_)
  refine lv_goto (tgt := 110) C.1 C.2.1 dX11_copies_178 rfl ?_
  exact hK110 x0 x1 x2 (x3 + (1 : Int32)) _ _ _ _ hx0 hW (lv_sub hl [1, 2, 3, 0] rfl) hf

set_option maxRecDepth 100000 in
theorem kX11_copies_110 {p : Program} {l : Launch} {e : Env} {s : State} {m : MethodId} {av : Array Value} {below : List Frame} {meth : Method} {c : Code} {A : Nat → Prop} {G : Gv} {L : List Nat} {q : MS}  (C : mC p s m av meth c cX11_copies RX11 4 none) : ∀ (n : Nat) (x0 : Nat) (x1 : Int32) (x2 : Int32) (x3 : Int32) (S : MS) (H : Heap) (locs : List Loc) (ls : Array Slot), (x0 < shM.1 ∧ shM.2.1 x0 = 11) → mW G shM L S A s H locs → lv_has ls 4 [(0, .ref (ad L x0)), (1, .int x1), (2, .int x2), (3, .int x3)] → fX11_copies_110  n x0 x1 x2 x3 S = some q → W p l e (rmd (1)) s m av below meth c H locs 0 0 (MQ below (mQ G shM L q none A) av s 0 0 A) (F0 m 110 ls []) := by
  intro n
  induction n with
  | zero =>
    intro x0 x1 x2 x3 S H locs ls hx0 hW hl hf
    rw [fX11_copies_110] at hf
    cases hf
  | succ n ih =>
    intro x0 x1 x2 x3 S H locs ls hx0 hW hl hf
    rw [fX11_copies_110] at hf
    refine lv_iload_n C.1 C.2.1 dX11_copies_110 rfl (lv_at hl 3 rfl) ?_
    refine lv_iconst C.1 C.2.1 dX11_copies_111 ic_4 ?_
    refine lv_icmp_ge (tgt := 181) C.1 C.2.1 dX11_copies_112 rfl (fun c5 => ?_) (fun c5 => ?_)
    · have hf := (if_pos c5).symm.trans hf
      cases hf
      exact m_vret C hW dX11_copies_181
    · have hf := (if_neg c5).symm.trans hf
      refine lv_aload_n C.1 C.2.1 dX11_copies_115 rfl (lv_at hl 0 rfl) ?_
      refine m_getr C hW hx0 flX11_120 (by decide) dX11_copies_116 (fun hk6 => ?_)
      refine lv_iconst C.1 C.2.1 dX11_copies_119 ic_4 ?_
      refine lv_iload_n C.1 C.2.1 dX11_copies_120 rfl (lv_at hl 1 rfl) ?_
      refine lv_imul C.1 C.2.1 dX11_copies_121 ?_
      refine lv_iload_n C.1 C.2.1 dX11_copies_122 rfl (lv_at hl 3 rfl) ?_
      refine lv_iadd C.1 C.2.1 dX11_copies_123 ?_
      refine lv_aload_n C.1 C.2.1 dX11_copies_124 rfl (lv_at hl 0 rfl) ?_
      refine m_getr C hW hx0 flX11_120 (by decide) dX11_copies_125 (fun hk7 => ?_)
      refine lv_iconst C.1 C.2.1 dX11_copies_128 ic_4 ?_
      refine lv_iload_n C.1 C.2.1 dX11_copies_129 rfl (lv_at hl 2 rfl) ?_
      refine lv_imul C.1 C.2.1 dX11_copies_130 ?_
      refine lv_iload_n C.1 C.2.1 dX11_copies_131 rfl (lv_at hl 3 rfl) ?_
      refine lv_iadd C.1 C.2.1 dX11_copies_132 ?_
      obtain ⟨hb8, hf⟩ := gd hf
      refine m_iald C hW hk7 hb8 dX11_copies_133 ?_
      obtain ⟨hb9, hf⟩ := gd hf
      refine m_iast C hW hk6 hb9 dX11_copies_134 (fun H locs hW => ?_)
      refine lv_aload_n C.1 C.2.1 dX11_copies_135 rfl (lv_at hl 0 rfl) ?_
      refine m_getr C hW hx0 flX11_123 (by decide) dX11_copies_136 (fun hk10 => ?_)
      refine lv_iconst C.1 C.2.1 dX11_copies_139 ic_4 ?_
      refine lv_iload_n C.1 C.2.1 dX11_copies_140 rfl (lv_at hl 1 rfl) ?_
      refine lv_imul C.1 C.2.1 dX11_copies_141 ?_
      refine lv_iload_n C.1 C.2.1 dX11_copies_142 rfl (lv_at hl 3 rfl) ?_
      refine lv_iadd C.1 C.2.1 dX11_copies_143 ?_
      refine lv_aload_n C.1 C.2.1 dX11_copies_144 rfl (lv_at hl 0 rfl) ?_
      refine m_getr C hW hx0 flX11_123 (by decide) dX11_copies_145 (fun hk11 => ?_)
      refine lv_iconst C.1 C.2.1 dX11_copies_148 ic_4 ?_
      refine lv_iload_n C.1 C.2.1 dX11_copies_149 rfl (lv_at hl 2 rfl) ?_
      refine lv_imul C.1 C.2.1 dX11_copies_150 ?_
      refine lv_iload_n C.1 C.2.1 dX11_copies_151 rfl (lv_at hl 3 rfl) ?_
      refine lv_iadd C.1 C.2.1 dX11_copies_152 ?_
      obtain ⟨hb12, hf⟩ := gd hf
      refine m_iald C hW hk11 hb12 dX11_copies_153 ?_
      obtain ⟨hb13, hf⟩ := gd hf
      refine m_iast C hW hk10 hb13 dX11_copies_154 (fun H locs hW => ?_)
      exact kX11_copies_155 ih C x0 x1 x2 x3 _ _ _ _ hx0 hW (lv_sub hl [0, 1, 2, 3] rfl) hf

set_option maxRecDepth 100000 in
theorem kX11_copies_96 {p : Program} {l : Launch} {e : Env} {s : State} {m : MethodId} {av : Array Value} {below : List Frame} {meth : Method} {c : Code} {A : Nat → Prop} {G : Gv} {L : List Nat} {q : MS}  (C : mC p s m av meth c cX11_copies RX11 4 none) : ∀ (x0 : Nat) (x1 : Int32) (x2 : Int32) (S : MS) (H : Heap) (locs : List Loc) (ls : Array Slot), (x0 < shM.1 ∧ shM.2.1 x0 = 11) → mW G shM L S A s H locs → lv_has ls 4 [(0, .ref (ad L x0)), (1, .int x1), (2, .int x2)] → fX11_copies_96  x0 x1 x2 S = some q → W p l e (rmd (1)) s m av below meth c H locs 0 0 (MQ below (mQ G shM L q none A) av s 0 0 A) (F0 m 96 ls []) := by
  intro x0 x1 x2 S H locs ls hx0 hW hl hf
  unfold fX11_copies_96 at hf
  refine lv_aload_n C.1 C.2.1 dX11_copies_96 rfl (lv_at hl 0 rfl) ?_
  refine m_getr C hW hx0 flX11_117 (by decide) dX11_copies_97 (fun hk14 => ?_)
  refine lv_iload_n C.1 C.2.1 dX11_copies_100 rfl (lv_at hl 1 rfl) ?_
  refine lv_aload_n C.1 C.2.1 dX11_copies_101 rfl (lv_at hl 0 rfl) ?_
  refine m_getr C hW hx0 flX11_117 (by decide) dX11_copies_102 (fun hk15 => ?_)
  refine lv_iload_n C.1 C.2.1 dX11_copies_105 rfl (lv_at hl 2 rfl) ?_
  obtain ⟨hb16, hf⟩ := gd hf
  refine m_iald C hW hk15 hb16 dX11_copies_106 ?_
  obtain ⟨hb17, hf⟩ := gd hf
  refine m_iast C hW hk14 hb17 dX11_copies_107 (fun H locs hW => ?_)
  refine lv_iconst C.1 C.2.1 dX11_copies_108 ic_0 ?_
  refine lv_istore_n (lv' := [(3, .int (0 : Int32)), (0, .ref (ad L x0)), (1, .int x1), (2, .int x2)]) C.1 C.2.1 dX11_copies_109 rfl hl (by decide) rfl (fun ls hl => ?_)
  exact kX11_copies_110  C 1000 x0 x1 x2 (0 : Int32) _ _ _ _ hx0 hW (lv_sub hl [1, 2, 3, 0] rfl) hf

set_option maxRecDepth 100000 in
theorem kX11_copies_72 {p : Program} {l : Launch} {e : Env} {s : State} {m : MethodId} {av : Array Value} {below : List Frame} {meth : Method} {c : Code} {A : Nat → Prop} {G : Gv} {L : List Nat} {q : MS}  (C : mC p s m av meth c cX11_copies RX11 4 none) : ∀ (x0 : Nat) (x1 : Int32) (x2 : Int32) (S : MS) (H : Heap) (locs : List Loc) (ls : Array Slot), (x0 < shM.1 ∧ shM.2.1 x0 = 11) → mW G shM L S A s H locs → lv_has ls 4 [(0, .ref (ad L x0)), (1, .int x1), (2, .int x2)] → fX11_copies_72  x0 x1 x2 S = some q → W p l e (rmd (1)) s m av below meth c H locs 0 0 (MQ below (mQ G shM L q none A) av s 0 0 A) (F0 m 72 ls []) := by
  intro x0 x1 x2 S H locs ls hx0 hW hl hf
  unfold fX11_copies_72 at hf
  refine lv_aload_n C.1 C.2.1 dX11_copies_72 rfl (lv_at hl 0 rfl) ?_
  refine m_getr C hW hx0 flX11_111 (by decide) dX11_copies_73 (fun hk18 => ?_)
  refine lv_iload_n C.1 C.2.1 dX11_copies_76 rfl (lv_at hl 1 rfl) ?_
  refine lv_aload_n C.1 C.2.1 dX11_copies_77 rfl (lv_at hl 0 rfl) ?_
  refine m_getr C hW hx0 flX11_111 (by decide) dX11_copies_78 (fun hk19 => ?_)
  refine lv_iload_n C.1 C.2.1 dX11_copies_81 rfl (lv_at hl 2 rfl) ?_
  obtain ⟨hb20, hf⟩ := gd hf
  refine m_iald C hW hk19 hb20 dX11_copies_82 ?_
  obtain ⟨hb21, hf⟩ := gd hf
  refine m_iast C hW hk18 hb21 dX11_copies_83 (fun H locs hW => ?_)
  refine lv_aload_n C.1 C.2.1 dX11_copies_84 rfl (lv_at hl 0 rfl) ?_
  refine m_getr C hW hx0 flX11_114 (by decide) dX11_copies_85 (fun hk22 => ?_)
  refine lv_iload_n C.1 C.2.1 dX11_copies_88 rfl (lv_at hl 1 rfl) ?_
  refine lv_aload_n C.1 C.2.1 dX11_copies_89 rfl (lv_at hl 0 rfl) ?_
  refine m_getr C hW hx0 flX11_114 (by decide) dX11_copies_90 (fun hk23 => ?_)
  refine lv_iload_n C.1 C.2.1 dX11_copies_93 rfl (lv_at hl 2 rfl) ?_
  obtain ⟨hb24, hf⟩ := gd hf
  refine m_iald C hW hk23 hb24 dX11_copies_94 ?_
  obtain ⟨hb25, hf⟩ := gd hf
  refine m_iast C hW hk22 hb25 dX11_copies_95 (fun H locs hW => ?_)
  exact kX11_copies_96  C x0 x1 x2 _ _ _ _ hx0 hW (lv_sub hl [0, 1, 2] rfl) hf

set_option maxRecDepth 100000 in
theorem kX11_copies_48 {p : Program} {l : Launch} {e : Env} {s : State} {m : MethodId} {av : Array Value} {below : List Frame} {meth : Method} {c : Code} {A : Nat → Prop} {G : Gv} {L : List Nat} {q : MS}  (C : mC p s m av meth c cX11_copies RX11 4 none) : ∀ (x0 : Nat) (x1 : Int32) (x2 : Int32) (S : MS) (H : Heap) (locs : List Loc) (ls : Array Slot), (x0 < shM.1 ∧ shM.2.1 x0 = 11) → mW G shM L S A s H locs → lv_has ls 4 [(0, .ref (ad L x0)), (1, .int x1), (2, .int x2)] → fX11_copies_48  x0 x1 x2 S = some q → W p l e (rmd (1)) s m av below meth c H locs 0 0 (MQ below (mQ G shM L q none A) av s 0 0 A) (F0 m 48 ls []) := by
  intro x0 x1 x2 S H locs ls hx0 hW hl hf
  unfold fX11_copies_48 at hf
  refine lv_aload_n C.1 C.2.1 dX11_copies_48 rfl (lv_at hl 0 rfl) ?_
  refine m_getr C hW hx0 flX11_105 (by decide) dX11_copies_49 (fun hk26 => ?_)
  refine lv_iload_n C.1 C.2.1 dX11_copies_52 rfl (lv_at hl 1 rfl) ?_
  refine lv_aload_n C.1 C.2.1 dX11_copies_53 rfl (lv_at hl 0 rfl) ?_
  refine m_getr C hW hx0 flX11_105 (by decide) dX11_copies_54 (fun hk27 => ?_)
  refine lv_iload_n C.1 C.2.1 dX11_copies_57 rfl (lv_at hl 2 rfl) ?_
  obtain ⟨hb28, hf⟩ := gd hf
  refine m_iald C hW hk27 hb28 dX11_copies_58 ?_
  obtain ⟨hb29, hf⟩ := gd hf
  refine m_iast C hW hk26 hb29 dX11_copies_59 (fun H locs hW => ?_)
  refine lv_aload_n C.1 C.2.1 dX11_copies_60 rfl (lv_at hl 0 rfl) ?_
  refine m_getr C hW hx0 flX11_108 (by decide) dX11_copies_61 (fun hk30 => ?_)
  refine lv_iload_n C.1 C.2.1 dX11_copies_64 rfl (lv_at hl 1 rfl) ?_
  refine lv_aload_n C.1 C.2.1 dX11_copies_65 rfl (lv_at hl 0 rfl) ?_
  refine m_getr C hW hx0 flX11_108 (by decide) dX11_copies_66 (fun hk31 => ?_)
  refine lv_iload_n C.1 C.2.1 dX11_copies_69 rfl (lv_at hl 2 rfl) ?_
  obtain ⟨hb32, hf⟩ := gd hf
  refine m_iald C hW hk31 hb32 dX11_copies_70 ?_
  obtain ⟨hb33, hf⟩ := gd hf
  refine m_iast C hW hk30 hb33 dX11_copies_71 (fun H locs hW => ?_)
  exact kX11_copies_72  C x0 x1 x2 _ _ _ _ hx0 hW (lv_sub hl [0, 1, 2] rfl) hf

set_option maxRecDepth 100000 in
theorem kX11_copies_24 {p : Program} {l : Launch} {e : Env} {s : State} {m : MethodId} {av : Array Value} {below : List Frame} {meth : Method} {c : Code} {A : Nat → Prop} {G : Gv} {L : List Nat} {q : MS}  (C : mC p s m av meth c cX11_copies RX11 4 none) : ∀ (x0 : Nat) (x1 : Int32) (x2 : Int32) (S : MS) (H : Heap) (locs : List Loc) (ls : Array Slot), (x0 < shM.1 ∧ shM.2.1 x0 = 11) → mW G shM L S A s H locs → lv_has ls 4 [(0, .ref (ad L x0)), (1, .int x1), (2, .int x2)] → fX11_copies_24  x0 x1 x2 S = some q → W p l e (rmd (1)) s m av below meth c H locs 0 0 (MQ below (mQ G shM L q none A) av s 0 0 A) (F0 m 24 ls []) := by
  intro x0 x1 x2 S H locs ls hx0 hW hl hf
  unfold fX11_copies_24 at hf
  refine lv_aload_n C.1 C.2.1 dX11_copies_24 rfl (lv_at hl 0 rfl) ?_
  refine m_getr C hW hx0 flX11_99 (by decide) dX11_copies_25 (fun hk34 => ?_)
  refine lv_iload_n C.1 C.2.1 dX11_copies_28 rfl (lv_at hl 1 rfl) ?_
  refine lv_aload_n C.1 C.2.1 dX11_copies_29 rfl (lv_at hl 0 rfl) ?_
  refine m_getr C hW hx0 flX11_99 (by decide) dX11_copies_30 (fun hk35 => ?_)
  refine lv_iload_n C.1 C.2.1 dX11_copies_33 rfl (lv_at hl 2 rfl) ?_
  obtain ⟨hb36, hf⟩ := gd hf
  refine m_iald C hW hk35 hb36 dX11_copies_34 ?_
  obtain ⟨hb37, hf⟩ := gd hf
  refine m_iast C hW hk34 hb37 dX11_copies_35 (fun H locs hW => ?_)
  refine lv_aload_n C.1 C.2.1 dX11_copies_36 rfl (lv_at hl 0 rfl) ?_
  refine m_getr C hW hx0 flX11_102 (by decide) dX11_copies_37 (fun hk38 => ?_)
  refine lv_iload_n C.1 C.2.1 dX11_copies_40 rfl (lv_at hl 1 rfl) ?_
  refine lv_aload_n C.1 C.2.1 dX11_copies_41 rfl (lv_at hl 0 rfl) ?_
  refine m_getr C hW hx0 flX11_102 (by decide) dX11_copies_42 (fun hk39 => ?_)
  refine lv_iload_n C.1 C.2.1 dX11_copies_45 rfl (lv_at hl 2 rfl) ?_
  obtain ⟨hb40, hf⟩ := gd hf
  refine m_iald C hW hk39 hb40 dX11_copies_46 ?_
  obtain ⟨hb41, hf⟩ := gd hf
  refine m_iast C hW hk38 hb41 dX11_copies_47 (fun H locs hW => ?_)
  exact kX11_copies_48  C x0 x1 x2 _ _ _ _ hx0 hW (lv_sub hl [0, 1, 2] rfl) hf

set_option maxRecDepth 100000 in
theorem cX11_copies_ok {l : Launch} {G : Gv} {L : List Nat} {S : MS} {a0 : Nat} {a1 : Int32} {a2 : Int32} {q : MS} (ha0 : a0 < shM.1 ∧ shM.2.1 a0 = 11) (hf : fX11_copies a0 a1 a2 S = some q) : Mt l yX11_copies cX11_copies 4 none (1) G shM L S [.ref (ad L a0), .int a1, .int a2] none q := by
  refine m_enter (lv := [(0, .ref (ad L a0)), (1, .int a1), (2, .int a2)]) (plainFor_of_name (by decide)) (Nat.le_of_ble_eq_true rfl) rfl ?_
  intro p e s m below meth c A ls C hW hl
  unfold fX11_copies at hf
  refine lv_aload_n C.1 C.2.1 dX11_copies_0 rfl (lv_at hl 0 rfl) ?_
  refine m_getr C hW ha0 flX11_93 (by decide) dX11_copies_1 (fun hk42 => ?_)
  refine lv_iload_n C.1 C.2.1 dX11_copies_4 rfl (lv_at hl 1 rfl) ?_
  refine lv_aload_n C.1 C.2.1 dX11_copies_5 rfl (lv_at hl 0 rfl) ?_
  refine m_getr C hW ha0 flX11_93 (by decide) dX11_copies_6 (fun hk43 => ?_)
  refine lv_iload_n C.1 C.2.1 dX11_copies_9 rfl (lv_at hl 2 rfl) ?_
  obtain ⟨hb44, hf⟩ := gd hf
  refine m_iald C hW hk43 hb44 dX11_copies_10 ?_
  obtain ⟨hb45, hf⟩ := gd hf
  refine m_iast C hW hk42 hb45 dX11_copies_11 (fun H locs hW => ?_)
  refine lv_aload_n C.1 C.2.1 dX11_copies_12 rfl (lv_at hl 0 rfl) ?_
  refine m_getr C hW ha0 flX11_96 (by decide) dX11_copies_13 (fun hk46 => ?_)
  refine lv_iload_n C.1 C.2.1 dX11_copies_16 rfl (lv_at hl 1 rfl) ?_
  refine lv_aload_n C.1 C.2.1 dX11_copies_17 rfl (lv_at hl 0 rfl) ?_
  refine m_getr C hW ha0 flX11_96 (by decide) dX11_copies_18 (fun hk47 => ?_)
  refine lv_iload_n C.1 C.2.1 dX11_copies_21 rfl (lv_at hl 2 rfl) ?_
  obtain ⟨hb48, hf⟩ := gd hf
  refine m_iald C hW hk47 hb48 dX11_copies_22 ?_
  obtain ⟨hb49, hf⟩ := gd hf
  refine m_iast C hW hk46 hb49 dX11_copies_23 (fun H locs hW => ?_)
  exact kX11_copies_24  C a0 a1 a2 _ _ _ _ ha0 hW (lv_sub hl [0, 1, 2] rfl) hf

def fX11_isCell (a0 : Nat) (a1 : Int32) (a2 : Int32) (S : MS) : Option Int32 := (if a1 < (0 : Int32) then some (0 : Int32) else (if bnd (0 : Int32) (lnM (gR S a0 3)) = true then (if (gI S (gR S a0 3) (0 : Int32).toNatClampNeg) ≤ a1 then some (0 : Int32) else (if a2 < (0 : Int32) then some (0 : Int32) else (if bnd (1 : Int32) (lnM (gR S a0 3)) = true then (if (gI S (gR S a0 3) (1 : Int32).toNatClampNeg) ≤ a2 then some (0 : Int32) else some (1 : Int32)) else none))) else none))
set_option maxRecDepth 100000 in
theorem cX11_isCell_ok {l : Launch} {G : Gv} {L : List Nat} {S : MS} {a0 : Nat} {a1 : Int32} {a2 : Int32} {q : Int32} (ha0 : a0 < shM.1 ∧ shM.2.1 a0 = 11) (hf : fX11_isCell a0 a1 a2 S = some q) : Mt l yX11_isCell cX11_isCell 3 (some .boolean) (1) G shM L S [.ref (ad L a0), .int a1, .int a2] (some (.int q)) S := by
  refine m_enter (lv := [(0, .ref (ad L a0)), (1, .int a1), (2, .int a2)]) (plainFor_of_name (by decide)) (Nat.le_of_ble_eq_true rfl) rfl ?_
  intro p e s m below meth c A ls C hW hl
  unfold fX11_isCell at hf
  refine lv_iload_n C.1 C.2.1 dX11_isCell_0 rfl (lv_at hl 1 rfl) ?_
  refine lv_if_lt (tgt := 32) C.1 C.2.1 dX11_isCell_1 rfl (fun c1 => ?_) (fun c1 => ?_)
  · have hf := (if_pos c1).symm.trans hf
    refine lv_iconst C.1 C.2.1 dX11_isCell_32 ic_0 ?_
    cases hf
    exact m_zret C hW rfl dX11_isCell_33
  · have hf := (if_neg c1).symm.trans hf
    refine lv_iload_n C.1 C.2.1 dX11_isCell_4 rfl (lv_at hl 1 rfl) ?_
    refine lv_aload_n C.1 C.2.1 dX11_isCell_5 rfl (lv_at hl 0 rfl) ?_
    refine m_getr C hW ha0 flX11_13 (by decide) dX11_isCell_6 (fun hk2 => ?_)
    refine lv_iconst C.1 C.2.1 dX11_isCell_9 ic_0 ?_
    obtain ⟨hb3, hf⟩ := gd hf
    refine m_iald C hW hk2 hb3 dX11_isCell_10 ?_
    refine lv_icmp_ge (tgt := 32) C.1 C.2.1 dX11_isCell_11 rfl (fun c4 => ?_) (fun c4 => ?_)
    · have hf := (if_pos c4).symm.trans hf
      refine lv_iconst C.1 C.2.1 dX11_isCell_32 ic_0 ?_
      cases hf
      exact m_zret C hW rfl dX11_isCell_33
    · have hf := (if_neg c4).symm.trans hf
      refine lv_iload_n C.1 C.2.1 dX11_isCell_14 rfl (lv_at hl 2 rfl) ?_
      refine lv_if_lt (tgt := 32) C.1 C.2.1 dX11_isCell_15 rfl (fun c5 => ?_) (fun c5 => ?_)
      · have hf := (if_pos c5).symm.trans hf
        refine lv_iconst C.1 C.2.1 dX11_isCell_32 ic_0 ?_
        cases hf
        exact m_zret C hW rfl dX11_isCell_33
      · have hf := (if_neg c5).symm.trans hf
        refine lv_iload_n C.1 C.2.1 dX11_isCell_18 rfl (lv_at hl 2 rfl) ?_
        refine lv_aload_n C.1 C.2.1 dX11_isCell_19 rfl (lv_at hl 0 rfl) ?_
        refine m_getr C hW ha0 flX11_13 (by decide) dX11_isCell_20 (fun hk6 => ?_)
        refine lv_iconst C.1 C.2.1 dX11_isCell_23 ic_1 ?_
        obtain ⟨hb7, hf⟩ := gd hf
        refine m_iald C hW hk6 hb7 dX11_isCell_24 ?_
        refine lv_icmp_ge (tgt := 32) C.1 C.2.1 dX11_isCell_25 rfl (fun c8 => ?_) (fun c8 => ?_)
        · have hf := (if_pos c8).symm.trans hf
          refine lv_iconst C.1 C.2.1 dX11_isCell_32 ic_0 ?_
          cases hf
          exact m_zret C hW rfl dX11_isCell_33
        · have hf := (if_neg c8).symm.trans hf
          refine lv_iconst C.1 C.2.1 dX11_isCell_28 ic_1 ?_
          refine lv_goto (tgt := 33) C.1 C.2.1 dX11_isCell_29 rfl ?_
          cases hf
          exact m_zret C hW rfl dX11_isCell_33

def fX11_isLamp (a0 : Nat) (a1 : Int32) (S : MS) : Option Int32 := (if a1 < (0 : Int32) then some (0 : Int32) else (if bnd (6 : Int32) (lnM (gR S a0 3)) = true then (if (gI S (gR S a0 3) (6 : Int32).toNatClampNeg) ≤ a1 then some (0 : Int32) else some (1 : Int32)) else none))
set_option maxRecDepth 100000 in
theorem cX11_isLamp_ok {l : Launch} {G : Gv} {L : List Nat} {S : MS} {a0 : Nat} {a1 : Int32} {q : Int32} (ha0 : a0 < shM.1 ∧ shM.2.1 a0 = 11) (hf : fX11_isLamp a0 a1 S = some q) : Mt l yX11_isLamp cX11_isLamp 2 (some .boolean) (1) G shM L S [.ref (ad L a0), .int a1] (some (.int q)) S := by
  refine m_enter (lv := [(0, .ref (ad L a0)), (1, .int a1)]) (plainFor_of_name (by decide)) (Nat.le_of_ble_eq_true rfl) rfl ?_
  intro p e s m below meth c A ls C hW hl
  unfold fX11_isLamp at hf
  refine lv_iload_n C.1 C.2.1 dX11_isLamp_0 rfl (lv_at hl 1 rfl) ?_
  refine lv_if_lt (tgt := 19) C.1 C.2.1 dX11_isLamp_1 rfl (fun c1 => ?_) (fun c1 => ?_)
  · have hf := (if_pos c1).symm.trans hf
    refine lv_iconst C.1 C.2.1 dX11_isLamp_19 ic_0 ?_
    cases hf
    exact m_zret C hW rfl dX11_isLamp_20
  · have hf := (if_neg c1).symm.trans hf
    refine lv_iload_n C.1 C.2.1 dX11_isLamp_4 rfl (lv_at hl 1 rfl) ?_
    refine lv_aload_n C.1 C.2.1 dX11_isLamp_5 rfl (lv_at hl 0 rfl) ?_
    refine m_getr C hW ha0 flX11_13 (by decide) dX11_isLamp_6 (fun hk2 => ?_)
    refine lv_bipush C.1 C.2.1 dX11_isLamp_9 bp_6 ?_
    obtain ⟨hb3, hf⟩ := gd hf
    refine m_iald C hW hk2 hb3 dX11_isLamp_11 ?_
    refine lv_icmp_ge (tgt := 19) C.1 C.2.1 dX11_isLamp_12 rfl (fun c4 => ?_) (fun c4 => ?_)
    · have hf := (if_pos c4).symm.trans hf
      refine lv_iconst C.1 C.2.1 dX11_isLamp_19 ic_0 ?_
      cases hf
      exact m_zret C hW rfl dX11_isLamp_20
    · have hf := (if_neg c4).symm.trans hf
      refine lv_iconst C.1 C.2.1 dX11_isLamp_15 ic_1 ?_
      refine lv_goto (tgt := 20) C.1 C.2.1 dX11_isLamp_16 rfl ?_
      cases hf
      exact m_zret C hW rfl dX11_isLamp_20

def fX11_isDoing (a0 : Nat) (a1 : Int32) (S : MS) : Option Int32 := (if a1 < (0 : Int32) then some (0 : Int32) else (if bnd (8 : Int32) (lnM (gR S a0 3)) = true then (if (gI S (gR S a0 3) (8 : Int32).toNatClampNeg) ≤ a1 then some (0 : Int32) else some (1 : Int32)) else none))
set_option maxRecDepth 100000 in
theorem cX11_isDoing_ok {l : Launch} {G : Gv} {L : List Nat} {S : MS} {a0 : Nat} {a1 : Int32} {q : Int32} (ha0 : a0 < shM.1 ∧ shM.2.1 a0 = 11) (hf : fX11_isDoing a0 a1 S = some q) : Mt l yX11_isDoing cX11_isDoing 2 (some .boolean) (1) G shM L S [.ref (ad L a0), .int a1] (some (.int q)) S := by
  refine m_enter (lv := [(0, .ref (ad L a0)), (1, .int a1)]) (plainFor_of_name (by decide)) (Nat.le_of_ble_eq_true rfl) rfl ?_
  intro p e s m below meth c A ls C hW hl
  unfold fX11_isDoing at hf
  refine lv_iload_n C.1 C.2.1 dX11_isDoing_0 rfl (lv_at hl 1 rfl) ?_
  refine lv_if_lt (tgt := 19) C.1 C.2.1 dX11_isDoing_1 rfl (fun c1 => ?_) (fun c1 => ?_)
  · have hf := (if_pos c1).symm.trans hf
    refine lv_iconst C.1 C.2.1 dX11_isDoing_19 ic_0 ?_
    cases hf
    exact m_zret C hW rfl dX11_isDoing_20
  · have hf := (if_neg c1).symm.trans hf
    refine lv_iload_n C.1 C.2.1 dX11_isDoing_4 rfl (lv_at hl 1 rfl) ?_
    refine lv_aload_n C.1 C.2.1 dX11_isDoing_5 rfl (lv_at hl 0 rfl) ?_
    refine m_getr C hW ha0 flX11_13 (by decide) dX11_isDoing_6 (fun hk2 => ?_)
    refine lv_bipush C.1 C.2.1 dX11_isDoing_9 bp_8 ?_
    obtain ⟨hb3, hf⟩ := gd hf
    refine m_iald C hW hk2 hb3 dX11_isDoing_11 ?_
    refine lv_icmp_ge (tgt := 19) C.1 C.2.1 dX11_isDoing_12 rfl (fun c4 => ?_) (fun c4 => ?_)
    · have hf := (if_pos c4).symm.trans hf
      refine lv_iconst C.1 C.2.1 dX11_isDoing_19 ic_0 ?_
      cases hf
      exact m_zret C hW rfl dX11_isDoing_20
    · have hf := (if_neg c4).symm.trans hf
      refine lv_iconst C.1 C.2.1 dX11_isDoing_15 ic_1 ?_
      refine lv_goto (tgt := 20) C.1 C.2.1 dX11_isDoing_16 rfl ?_
      cases hf
      exact m_zret C hW rfl dX11_isDoing_20

def fX11_isMan (a0 : Nat) (a1 : Int32) (S : MS) : Option Int32 := (if a1 < (0 : Int32) then some (0 : Int32) else (if bnd (9 : Int32) (lnM (gR S a0 3)) = true then (if (gI S (gR S a0 3) (9 : Int32).toNatClampNeg) ≤ a1 then some (0 : Int32) else some (1 : Int32)) else none))
set_option maxRecDepth 100000 in
theorem cX11_isMan_ok {l : Launch} {G : Gv} {L : List Nat} {S : MS} {a0 : Nat} {a1 : Int32} {q : Int32} (ha0 : a0 < shM.1 ∧ shM.2.1 a0 = 11) (hf : fX11_isMan a0 a1 S = some q) : Mt l yX11_isMan cX11_isMan 2 (some .boolean) (1) G shM L S [.ref (ad L a0), .int a1] (some (.int q)) S := by
  refine m_enter (lv := [(0, .ref (ad L a0)), (1, .int a1)]) (plainFor_of_name (by decide)) (Nat.le_of_ble_eq_true rfl) rfl ?_
  intro p e s m below meth c A ls C hW hl
  unfold fX11_isMan at hf
  refine lv_iload_n C.1 C.2.1 dX11_isMan_0 rfl (lv_at hl 1 rfl) ?_
  refine lv_if_lt (tgt := 19) C.1 C.2.1 dX11_isMan_1 rfl (fun c1 => ?_) (fun c1 => ?_)
  · have hf := (if_pos c1).symm.trans hf
    refine lv_iconst C.1 C.2.1 dX11_isMan_19 ic_0 ?_
    cases hf
    exact m_zret C hW rfl dX11_isMan_20
  · have hf := (if_neg c1).symm.trans hf
    refine lv_iload_n C.1 C.2.1 dX11_isMan_4 rfl (lv_at hl 1 rfl) ?_
    refine lv_aload_n C.1 C.2.1 dX11_isMan_5 rfl (lv_at hl 0 rfl) ?_
    refine m_getr C hW ha0 flX11_13 (by decide) dX11_isMan_6 (fun hk2 => ?_)
    refine lv_bipush C.1 C.2.1 dX11_isMan_9 bp_9 ?_
    obtain ⟨hb3, hf⟩ := gd hf
    refine m_iald C hW hk2 hb3 dX11_isMan_11 ?_
    refine lv_icmp_ge (tgt := 19) C.1 C.2.1 dX11_isMan_12 rfl (fun c4 => ?_) (fun c4 => ?_)
    · have hf := (if_pos c4).symm.trans hf
      refine lv_iconst C.1 C.2.1 dX11_isMan_19 ic_0 ?_
      cases hf
      exact m_zret C hW rfl dX11_isMan_20
    · have hf := (if_neg c4).symm.trans hf
      refine lv_iconst C.1 C.2.1 dX11_isMan_15 ic_1 ?_
      refine lv_goto (tgt := 20) C.1 C.2.1 dX11_isMan_16 rfl ?_
      cases hf
      exact m_zret C hW rfl dX11_isMan_20

def fX11_bitsOf_4  : Nat → Int32 → Int32 → Int32 → MS → Option Int32
  | 0, _, _, _, _ => none
  | n + 1, x0, x1, x2, S => (if (10 : Int32) ≤ x2 then some x1 else (fX11_bitsOf_4  n) x0 (x1 + ((x0 >>> (x2 &&& 31)) &&& (1 : Int32))) (x2 + (1 : Int32)) S)
def fX11_bitsOf (a0 : Int32) (S : MS) : Option Int32 := fX11_bitsOf_4  1000 a0 (0 : Int32) (0 : Int32) S
set_option maxRecDepth 100000 in
theorem kX11_bitsOf_4 {p : Program} {l : Launch} {e : Env} {s : State} {m : MethodId} {av : Array Value} {below : List Frame} {meth : Method} {c : Code} {A : Nat → Prop} {G : Gv} {L : List Nat} {S : MS} {q : Int32}  (C : mC p s m av meth c cX11_bitsOf RX11 3 (some .int)) : ∀ (n : Nat) (x0 : Int32) (x1 : Int32) (x2 : Int32) (H : Heap) (locs : List Loc) (ls : Array Slot), mW G shM L S A s H locs → lv_has ls 3 [(0, .int x0), (1, .int x1), (2, .int x2)] → fX11_bitsOf_4  n x0 x1 x2 S = some q → W p l e (rmd (1)) s m av below meth c H locs 0 0 (MQ below (mQ G shM L S (some (.int q)) A) av s 0 0 A) (F0 m 4 ls []) := by
  intro n
  induction n with
  | zero =>
    intro x0 x1 x2 H locs ls  hW hl hf
    rw [fX11_bitsOf_4] at hf
    cases hf
  | succ n ih =>
    intro x0 x1 x2 H locs ls  hW hl hf
    rw [fX11_bitsOf_4] at hf
    refine lv_iload_n C.1 C.2.1 dX11_bitsOf_4 rfl (lv_at hl 2 rfl) ?_
    refine lv_bipush C.1 C.2.1 dX11_bitsOf_5 bp_10 ?_
    refine lv_icmp_ge (tgt := 24) C.1 C.2.1 dX11_bitsOf_7 rfl (fun c1 => ?_) (fun c1 => ?_)
    · have hf := (if_pos c1).symm.trans hf
      refine lv_iload_n C.1 C.2.1 dX11_bitsOf_24 rfl (lv_at hl 1 rfl) ?_
      cases hf
      exact m_iret C hW dX11_bitsOf_25
    · have hf := (if_neg c1).symm.trans hf
      refine lv_iload_n C.1 C.2.1 dX11_bitsOf_10 rfl (lv_at hl 1 rfl) ?_
      refine lv_iload_n C.1 C.2.1 dX11_bitsOf_11 rfl (lv_at hl 0 rfl) ?_
      refine lv_iload_n C.1 C.2.1 dX11_bitsOf_12 rfl (lv_at hl 2 rfl) ?_
      refine lv_ishr C.1 C.2.1 dX11_bitsOf_13 ?_
      refine lv_iconst C.1 C.2.1 dX11_bitsOf_14 ic_1 ?_
      refine lv_iand C.1 C.2.1 dX11_bitsOf_15 ?_
      refine lv_iadd C.1 C.2.1 dX11_bitsOf_16 ?_
      refine lv_istore_n (lv' := [(1, .int (x1 + ((x0 >>> (x2 &&& 31)) &&& (1 : Int32)))), (0, .int x0), (2, .int x2)]) C.1 C.2.1 dX11_bitsOf_17 rfl hl (by decide) rfl (fun ls hl => ?_)
      refine lv_iinc (v := x2 + (1 : Int32)) (lv' := [(2, .int (x2 + (1 : Int32))), (1, .int (x1 + ((x0 >>> (x2 &&& 31)) &&& (1 : Int32)))), (0, .int x0)]) C.1 C.2.1 dX11_bitsOf_18 hl (k := 2) rfl (congrArg (fun z => x2 + z) ic_1) (by decide) rfl (fun ls hl => ?_)
      refine lv_goto (tgt := 4) C.1 C.2.1 dX11_bitsOf_21 rfl ?_
      exact ih x0 (x1 + ((x0 >>> (x2 &&& 31)) &&& (1 : Int32))) (x2 + (1 : Int32)) _ _ _  hW (lv_sub hl [2, 1, 0] rfl) hf

set_option maxRecDepth 100000 in
theorem cX11_bitsOf_ok {l : Launch} {G : Gv} {L : List Nat} {S : MS} {a0 : Int32} {q : Int32}  (hf : fX11_bitsOf a0 S = some q) : Mt l yX11_bitsOf cX11_bitsOf 3 (some .int) (1) G shM L S [.int a0] (some (.int q)) S := by
  refine m_enter (lv := [(0, .int a0)]) (plainFor_of_name (by decide)) (Nat.le_of_ble_eq_true rfl) rfl ?_
  intro p e s m below meth c A ls C hW hl
  unfold fX11_bitsOf at hf
  refine lv_iconst C.1 C.2.1 dX11_bitsOf_0 ic_0 ?_
  refine lv_istore_n (lv' := [(1, .int (0 : Int32)), (0, .int a0)]) C.1 C.2.1 dX11_bitsOf_1 rfl hl (by decide) rfl (fun ls hl => ?_)
  refine lv_iconst C.1 C.2.1 dX11_bitsOf_2 ic_0 ?_
  refine lv_istore_n (lv' := [(2, .int (0 : Int32)), (1, .int (0 : Int32)), (0, .int a0)]) C.1 C.2.1 dX11_bitsOf_3 rfl hl (by decide) rfl (fun ls hl => ?_)
  exact kX11_bitsOf_4  C 1000 a0 (0 : Int32) (0 : Int32) _ _ _  hW (lv_sub hl [2, 1, 0] rfl) hf

def fX11_rowBy (a0 : Int32) (S : MS) : Option Int32 := (if a0 = (0 : Int32) then some (-1 : Int32) else (if a0 = (2 : Int32) then some (1 : Int32) else some (0 : Int32)))
set_option maxRecDepth 100000 in
theorem cX11_rowBy_ok {l : Launch} {G : Gv} {L : List Nat} {S : MS} {a0 : Int32} {q : Int32}  (hf : fX11_rowBy a0 S = some q) : Mt l yX11_rowBy cX11_rowBy 1 (some .int) (1) G shM L S [.int a0] (some (.int q)) S := by
  refine m_enter (lv := [(0, .int a0)]) (plainFor_of_name (by decide)) (Nat.le_of_ble_eq_true rfl) rfl ?_
  intro p e s m below meth c A ls C hW hl
  unfold fX11_rowBy at hf
  refine lv_iload_n C.1 C.2.1 dX11_rowBy_0 rfl (lv_at hl 0 rfl) ?_
  refine lv_if_ne (tgt := 8) C.1 C.2.1 dX11_rowBy_1 rfl (fun c1 => ?_) (fun c1 => ?_)
  · have hf := (if_neg c1).symm.trans hf
    refine lv_iload_n C.1 C.2.1 dX11_rowBy_8 rfl (lv_at hl 0 rfl) ?_
    refine lv_iconst C.1 C.2.1 dX11_rowBy_9 ic_2 ?_
    refine lv_icmp_ne (tgt := 17) C.1 C.2.1 dX11_rowBy_10 rfl (fun c2 => ?_) (fun c2 => ?_)
    · have hf := (if_neg c2).symm.trans hf
      refine lv_iconst C.1 C.2.1 dX11_rowBy_17 ic_0 ?_
      cases hf
      exact m_iret C hW dX11_rowBy_18
    · have hf := (if_pos c2).symm.trans hf
      refine lv_iconst C.1 C.2.1 dX11_rowBy_13 ic_1 ?_
      refine lv_goto (tgt := 18) C.1 C.2.1 dX11_rowBy_14 rfl ?_
      cases hf
      exact m_iret C hW dX11_rowBy_18
  · have hf := (if_pos c1).symm.trans hf
    refine lv_iconst C.1 C.2.1 dX11_rowBy_4 ic_m1 ?_
    refine lv_goto (tgt := 18) C.1 C.2.1 dX11_rowBy_5 rfl ?_
    cases hf
    exact m_iret C hW dX11_rowBy_18

def fX11_columnBy (a0 : Int32) (S : MS) : Option Int32 := (if a0 = (1 : Int32) then some (1 : Int32) else (if a0 = (3 : Int32) then some (-1 : Int32) else some (0 : Int32)))
set_option maxRecDepth 100000 in
theorem cX11_columnBy_ok {l : Launch} {G : Gv} {L : List Nat} {S : MS} {a0 : Int32} {q : Int32}  (hf : fX11_columnBy a0 S = some q) : Mt l yX11_columnBy cX11_columnBy 1 (some .int) (1) G shM L S [.int a0] (some (.int q)) S := by
  refine m_enter (lv := [(0, .int a0)]) (plainFor_of_name (by decide)) (Nat.le_of_ble_eq_true rfl) rfl ?_
  intro p e s m below meth c A ls C hW hl
  unfold fX11_columnBy at hf
  refine lv_iload_n C.1 C.2.1 dX11_columnBy_0 rfl (lv_at hl 0 rfl) ?_
  refine lv_iconst C.1 C.2.1 dX11_columnBy_1 ic_1 ?_
  refine lv_icmp_ne (tgt := 9) C.1 C.2.1 dX11_columnBy_2 rfl (fun c1 => ?_) (fun c1 => ?_)
  · have hf := (if_neg c1).symm.trans hf
    refine lv_iload_n C.1 C.2.1 dX11_columnBy_9 rfl (lv_at hl 0 rfl) ?_
    refine lv_iconst C.1 C.2.1 dX11_columnBy_10 ic_3 ?_
    refine lv_icmp_ne (tgt := 18) C.1 C.2.1 dX11_columnBy_11 rfl (fun c2 => ?_) (fun c2 => ?_)
    · have hf := (if_neg c2).symm.trans hf
      refine lv_iconst C.1 C.2.1 dX11_columnBy_18 ic_0 ?_
      cases hf
      exact m_iret C hW dX11_columnBy_19
    · have hf := (if_pos c2).symm.trans hf
      refine lv_iconst C.1 C.2.1 dX11_columnBy_14 ic_m1 ?_
      refine lv_goto (tgt := 19) C.1 C.2.1 dX11_columnBy_15 rfl ?_
      cases hf
      exact m_iret C hW dX11_columnBy_19
  · have hf := (if_pos c1).symm.trans hf
    refine lv_iconst C.1 C.2.1 dX11_columnBy_5 ic_1 ?_
    refine lv_goto (tgt := 19) C.1 C.2.1 dX11_columnBy_6 rfl ?_
    cases hf
    exact m_iret C hW dX11_columnBy_19

def fX11_sunAt_77 (K7 : Nat → Int32 → Int32 → Int32 → Int32 → MS → Option Int32) (x0 : Nat) (x1 : Int32) (x2 : Int32) (x3 : Int32) (x4 : Int32) (S : MS) : Option Int32 := K7 x0 x1 x2 x3 (x4 + (1 : Int32)) S
def fX11_sunAt_74 (K7 : Nat → Int32 → Int32 → Int32 → Int32 → MS → Option Int32) (x0 : Nat) (x1 : Int32) (x3 : Int32) (x4 : Int32) (S : MS) : Option Int32 := fX11_sunAt_77 K7 x0 x1 x4 x3 x4 S
def fX11_sunAt_42 (K7 : Nat → Int32 → Int32 → Int32 → Int32 → MS → Option Int32) (x0 : Nat) (x1 : Int32) (x2 : Int32) (x3 : Int32) (x4 : Int32) (S : MS) : Option Int32 := (if bnd x4 (lnM (gR S x0 5)) = true then (if x1 < (gI S (gR S x0 5) x4.toNatClampNeg) then fX11_sunAt_77 K7 x0 x1 x2 x3 x4 S else (if x2 = (-1 : Int32) then fX11_sunAt_74 K7 x0 x1 x3 x4 S else (if bnd x4 (lnM (gR S x0 5)) = true then (if bnd x2 (lnM (gR S x0 5)) = true then (if (gI S (gR S x0 5) x4.toNatClampNeg) ≤ (gI S (gR S x0 5) x2.toNatClampNeg) then fX11_sunAt_77 K7 x0 x1 x2 x3 x4 S else fX11_sunAt_74 K7 x0 x1 x3 x4 S) else none) else none))) else none)
def fX11_sunAt_39 (K7 : Nat → Int32 → Int32 → Int32 → Int32 → MS → Option Int32) (x0 : Nat) (x1 : Int32) (x2 : Int32) (x4 : Int32) (S : MS) : Option Int32 := fX11_sunAt_42 K7 x0 x1 x2 x4 x4 S
def fX11_sunAt_7  : Nat → Nat → Int32 → Int32 → Int32 → Int32 → MS → Option Int32
  | 0, _, _, _, _, _, _ => none
  | n + 1, x0, x1, x2, x3, x4, S => (if bnd (5 : Int32) (lnM (gR S x0 3)) = true then (if (gI S (gR S x0 3) (5 : Int32).toNatClampNeg) ≤ x4 then (if x2 = (-1 : Int32) then some x3 else some x2) else (if x3 = (-1 : Int32) then fX11_sunAt_39 (fX11_sunAt_7  n) x0 x1 x2 x4 S else (if bnd x4 (lnM (gR S x0 5)) = true then (if bnd x3 (lnM (gR S x0 5)) = true then (if (gI S (gR S x0 5) x4.toNatClampNeg) ≤ (gI S (gR S x0 5) x3.toNatClampNeg) then fX11_sunAt_42 (fX11_sunAt_7  n) x0 x1 x2 x3 x4 S else fX11_sunAt_39 (fX11_sunAt_7  n) x0 x1 x2 x4 S) else none) else none))) else none)
def fX11_sunAt (a0 : Nat) (a1 : Int32) (S : MS) : Option Int32 := fX11_sunAt_7  1000 a0 a1 (-1 : Int32) (-1 : Int32) (0 : Int32) S
set_option maxRecDepth 100000 in
theorem kX11_sunAt_77 {p : Program} {l : Launch} {e : Env} {s : State} {m : MethodId} {av : Array Value} {below : List Frame} {meth : Method} {c : Code} {A : Nat → Prop} {G : Gv} {L : List Nat} {S : MS} {q : Int32} {K7 : Nat → Int32 → Int32 → Int32 → Int32 → MS → Option Int32} (hK7 : ∀ (x0 : Nat) (x1 : Int32) (x2 : Int32) (x3 : Int32) (x4 : Int32) (H : Heap) (locs : List Loc) (ls : Array Slot), (x0 < shM.1 ∧ shM.2.1 x0 = 11) → mW G shM L S A s H locs → lv_has ls 5 [(0, .ref (ad L x0)), (1, .int x1), (2, .int x2), (3, .int x3), (4, .int x4)] → K7 x0 x1 x2 x3 x4 S = some q → W p l e (rmd (1)) s m av below meth c H locs 0 0 (MQ below (mQ G shM L S (some (.int q)) A) av s 0 0 A) (F0 m 7 ls [])) (C : mC p s m av meth c cX11_sunAt RX11 5 (some .int)) : ∀ (x0 : Nat) (x1 : Int32) (x2 : Int32) (x3 : Int32) (x4 : Int32) (H : Heap) (locs : List Loc) (ls : Array Slot), (x0 < shM.1 ∧ shM.2.1 x0 = 11) → mW G shM L S A s H locs → lv_has ls 5 [(0, .ref (ad L x0)), (1, .int x1), (2, .int x2), (3, .int x3), (4, .int x4)] → fX11_sunAt_77 K7 x0 x1 x2 x3 x4 S = some q → W p l e (rmd (1)) s m av below meth c H locs 0 0 (MQ below (mQ G shM L S (some (.int q)) A) av s 0 0 A) (F0 m 77 ls []) := by
  intro x0 x1 x2 x3 x4 H locs ls hx0 hW hl hf
  unfold fX11_sunAt_77 at hf
  refine lv_iinc (v := x4 + (1 : Int32)) (lv' := [(4, .int (x4 + (1 : Int32))), (0, .ref (ad L x0)), (1, .int x1), (2, .int x2), (3, .int x3)]) C.1 C.2.1 dX11_sunAt_77 hl (k := 4) rfl (congrArg (fun z => x4 + z) ic_1) (by decide) rfl (fun ls hl => ?_)
  refine lv_goto (tgt := 7) C.1 C.2.1 dX11_sunAt_80 rfl ?_
  exact hK7 x0 x1 x2 x3 (x4 + (1 : Int32)) _ _ _ hx0 hW (lv_sub hl [1, 2, 3, 4, 0] rfl) hf

set_option maxRecDepth 100000 in
theorem kX11_sunAt_74 {p : Program} {l : Launch} {e : Env} {s : State} {m : MethodId} {av : Array Value} {below : List Frame} {meth : Method} {c : Code} {A : Nat → Prop} {G : Gv} {L : List Nat} {S : MS} {q : Int32} {K7 : Nat → Int32 → Int32 → Int32 → Int32 → MS → Option Int32} (hK7 : ∀ (x0 : Nat) (x1 : Int32) (x2 : Int32) (x3 : Int32) (x4 : Int32) (H : Heap) (locs : List Loc) (ls : Array Slot), (x0 < shM.1 ∧ shM.2.1 x0 = 11) → mW G shM L S A s H locs → lv_has ls 5 [(0, .ref (ad L x0)), (1, .int x1), (2, .int x2), (3, .int x3), (4, .int x4)] → K7 x0 x1 x2 x3 x4 S = some q → W p l e (rmd (1)) s m av below meth c H locs 0 0 (MQ below (mQ G shM L S (some (.int q)) A) av s 0 0 A) (F0 m 7 ls [])) (C : mC p s m av meth c cX11_sunAt RX11 5 (some .int)) : ∀ (x0 : Nat) (x1 : Int32) (x3 : Int32) (x4 : Int32) (H : Heap) (locs : List Loc) (ls : Array Slot), (x0 < shM.1 ∧ shM.2.1 x0 = 11) → mW G shM L S A s H locs → lv_has ls 5 [(0, .ref (ad L x0)), (1, .int x1), (3, .int x3), (4, .int x4)] → fX11_sunAt_74 K7 x0 x1 x3 x4 S = some q → W p l e (rmd (1)) s m av below meth c H locs 0 0 (MQ below (mQ G shM L S (some (.int q)) A) av s 0 0 A) (F0 m 74 ls []) := by
  intro x0 x1 x3 x4 H locs ls hx0 hW hl hf
  unfold fX11_sunAt_74 at hf
  refine lv_iload C.1 C.2.1 dX11_sunAt_74 (lv_at hl 3 rfl) ?_
  refine lv_istore_n (lv' := [(2, .int x4), (0, .ref (ad L x0)), (1, .int x1), (3, .int x3), (4, .int x4)]) C.1 C.2.1 dX11_sunAt_76 rfl hl (by decide) rfl (fun ls hl => ?_)
  exact kX11_sunAt_77 hK7 C x0 x1 x4 x3 x4 _ _ _ hx0 hW (lv_sub hl [1, 2, 0, 3, 4] rfl) hf

set_option maxRecDepth 100000 in
theorem kX11_sunAt_42 {p : Program} {l : Launch} {e : Env} {s : State} {m : MethodId} {av : Array Value} {below : List Frame} {meth : Method} {c : Code} {A : Nat → Prop} {G : Gv} {L : List Nat} {S : MS} {q : Int32} {K7 : Nat → Int32 → Int32 → Int32 → Int32 → MS → Option Int32} (hK7 : ∀ (x0 : Nat) (x1 : Int32) (x2 : Int32) (x3 : Int32) (x4 : Int32) (H : Heap) (locs : List Loc) (ls : Array Slot), (x0 < shM.1 ∧ shM.2.1 x0 = 11) → mW G shM L S A s H locs → lv_has ls 5 [(0, .ref (ad L x0)), (1, .int x1), (2, .int x2), (3, .int x3), (4, .int x4)] → K7 x0 x1 x2 x3 x4 S = some q → W p l e (rmd (1)) s m av below meth c H locs 0 0 (MQ below (mQ G shM L S (some (.int q)) A) av s 0 0 A) (F0 m 7 ls [])) (C : mC p s m av meth c cX11_sunAt RX11 5 (some .int)) : ∀ (x0 : Nat) (x1 : Int32) (x2 : Int32) (x3 : Int32) (x4 : Int32) (H : Heap) (locs : List Loc) (ls : Array Slot), (x0 < shM.1 ∧ shM.2.1 x0 = 11) → mW G shM L S A s H locs → lv_has ls 5 [(0, .ref (ad L x0)), (1, .int x1), (2, .int x2), (3, .int x3), (4, .int x4)] → fX11_sunAt_42 K7 x0 x1 x2 x3 x4 S = some q → W p l e (rmd (1)) s m av below meth c H locs 0 0 (MQ below (mQ G shM L S (some (.int q)) A) av s 0 0 A) (F0 m 42 ls []) := by
  intro x0 x1 x2 x3 x4 H locs ls hx0 hW hl hf
  unfold fX11_sunAt_42 at hf
  refine lv_aload_n C.1 C.2.1 dX11_sunAt_42 rfl (lv_at hl 0 rfl) ?_
  refine m_getr C hW hx0 flX11_19 (by decide) dX11_sunAt_43 (fun hk1 => ?_)
  refine lv_iload C.1 C.2.1 dX11_sunAt_46 (lv_at hl 4 rfl) ?_
  obtain ⟨hb2, hf⟩ := gd hf
  refine m_iald C hW hk1 hb2 dX11_sunAt_48 ?_
  refine lv_iload_n C.1 C.2.1 dX11_sunAt_49 rfl (lv_at hl 1 rfl) ?_
  refine lv_icmp_gt (tgt := 77) C.1 C.2.1 dX11_sunAt_50 rfl (fun c3 => ?_) (fun c3 => ?_)
  · have hf := (if_pos c3).symm.trans hf
    exact kX11_sunAt_77 hK7 C x0 x1 x2 x3 x4 _ _ _ hx0 hW (lv_sub hl [0, 1, 2, 3, 4] rfl) hf
  · have hf := (if_neg c3).symm.trans hf
    refine lv_iload_n C.1 C.2.1 dX11_sunAt_53 rfl (lv_at hl 2 rfl) ?_
    refine lv_iconst C.1 C.2.1 dX11_sunAt_54 ic_m1 ?_
    refine lv_icmp_eq (tgt := 74) C.1 C.2.1 dX11_sunAt_55 rfl (fun c4 => ?_) (fun c4 => ?_)
    · have hf := (if_pos c4).symm.trans hf
      exact kX11_sunAt_74 hK7 C x0 x1 x3 x4 _ _ _ hx0 hW (lv_sub hl [0, 1, 3, 4] rfl) hf
    · have hf := (if_neg c4).symm.trans hf
      refine lv_aload_n C.1 C.2.1 dX11_sunAt_58 rfl (lv_at hl 0 rfl) ?_
      refine m_getr C hW hx0 flX11_19 (by decide) dX11_sunAt_59 (fun hk5 => ?_)
      refine lv_iload C.1 C.2.1 dX11_sunAt_62 (lv_at hl 4 rfl) ?_
      obtain ⟨hb6, hf⟩ := gd hf
      refine m_iald C hW hk5 hb6 dX11_sunAt_64 ?_
      refine lv_aload_n C.1 C.2.1 dX11_sunAt_65 rfl (lv_at hl 0 rfl) ?_
      refine m_getr C hW hx0 flX11_19 (by decide) dX11_sunAt_66 (fun hk7 => ?_)
      refine lv_iload_n C.1 C.2.1 dX11_sunAt_69 rfl (lv_at hl 2 rfl) ?_
      obtain ⟨hb8, hf⟩ := gd hf
      refine m_iald C hW hk7 hb8 dX11_sunAt_70 ?_
      refine lv_icmp_le (tgt := 77) C.1 C.2.1 dX11_sunAt_71 rfl (fun c9 => ?_) (fun c9 => ?_)
      · have hf := (if_pos c9).symm.trans hf
        exact kX11_sunAt_77 hK7 C x0 x1 x2 x3 x4 _ _ _ hx0 hW (lv_sub hl [0, 1, 2, 3, 4] rfl) hf
      · have hf := (if_neg c9).symm.trans hf
        exact kX11_sunAt_74 hK7 C x0 x1 x3 x4 _ _ _ hx0 hW (lv_sub hl [0, 1, 3, 4] rfl) hf

set_option maxRecDepth 100000 in
theorem kX11_sunAt_39 {p : Program} {l : Launch} {e : Env} {s : State} {m : MethodId} {av : Array Value} {below : List Frame} {meth : Method} {c : Code} {A : Nat → Prop} {G : Gv} {L : List Nat} {S : MS} {q : Int32} {K7 : Nat → Int32 → Int32 → Int32 → Int32 → MS → Option Int32} (hK7 : ∀ (x0 : Nat) (x1 : Int32) (x2 : Int32) (x3 : Int32) (x4 : Int32) (H : Heap) (locs : List Loc) (ls : Array Slot), (x0 < shM.1 ∧ shM.2.1 x0 = 11) → mW G shM L S A s H locs → lv_has ls 5 [(0, .ref (ad L x0)), (1, .int x1), (2, .int x2), (3, .int x3), (4, .int x4)] → K7 x0 x1 x2 x3 x4 S = some q → W p l e (rmd (1)) s m av below meth c H locs 0 0 (MQ below (mQ G shM L S (some (.int q)) A) av s 0 0 A) (F0 m 7 ls [])) (C : mC p s m av meth c cX11_sunAt RX11 5 (some .int)) : ∀ (x0 : Nat) (x1 : Int32) (x2 : Int32) (x4 : Int32) (H : Heap) (locs : List Loc) (ls : Array Slot), (x0 < shM.1 ∧ shM.2.1 x0 = 11) → mW G shM L S A s H locs → lv_has ls 5 [(0, .ref (ad L x0)), (1, .int x1), (2, .int x2), (4, .int x4)] → fX11_sunAt_39 K7 x0 x1 x2 x4 S = some q → W p l e (rmd (1)) s m av below meth c H locs 0 0 (MQ below (mQ G shM L S (some (.int q)) A) av s 0 0 A) (F0 m 39 ls []) := by
  intro x0 x1 x2 x4 H locs ls hx0 hW hl hf
  unfold fX11_sunAt_39 at hf
  refine lv_iload C.1 C.2.1 dX11_sunAt_39 (lv_at hl 3 rfl) ?_
  refine lv_istore_n (lv' := [(3, .int x4), (0, .ref (ad L x0)), (1, .int x1), (2, .int x2), (4, .int x4)]) C.1 C.2.1 dX11_sunAt_41 rfl hl (by decide) rfl (fun ls hl => ?_)
  exact kX11_sunAt_42 hK7 C x0 x1 x2 x4 x4 _ _ _ hx0 hW (lv_sub hl [1, 2, 3, 0, 4] rfl) hf

set_option maxRecDepth 100000 in
theorem kX11_sunAt_7 {p : Program} {l : Launch} {e : Env} {s : State} {m : MethodId} {av : Array Value} {below : List Frame} {meth : Method} {c : Code} {A : Nat → Prop} {G : Gv} {L : List Nat} {S : MS} {q : Int32}  (C : mC p s m av meth c cX11_sunAt RX11 5 (some .int)) : ∀ (n : Nat) (x0 : Nat) (x1 : Int32) (x2 : Int32) (x3 : Int32) (x4 : Int32) (H : Heap) (locs : List Loc) (ls : Array Slot), (x0 < shM.1 ∧ shM.2.1 x0 = 11) → mW G shM L S A s H locs → lv_has ls 5 [(0, .ref (ad L x0)), (1, .int x1), (2, .int x2), (3, .int x3), (4, .int x4)] → fX11_sunAt_7  n x0 x1 x2 x3 x4 S = some q → W p l e (rmd (1)) s m av below meth c H locs 0 0 (MQ below (mQ G shM L S (some (.int q)) A) av s 0 0 A) (F0 m 7 ls []) := by
  intro n
  induction n with
  | zero =>
    intro x0 x1 x2 x3 x4 H locs ls hx0 hW hl hf
    rw [fX11_sunAt_7] at hf
    cases hf
  | succ n ih =>
    intro x0 x1 x2 x3 x4 H locs ls hx0 hW hl hf
    rw [fX11_sunAt_7] at hf
    refine lv_iload C.1 C.2.1 dX11_sunAt_7 (lv_at hl 4 rfl) ?_
    refine lv_aload_n C.1 C.2.1 dX11_sunAt_9 rfl (lv_at hl 0 rfl) ?_
    refine m_getr C hW hx0 flX11_13 (by decide) dX11_sunAt_10 (fun hk10 => ?_)
    refine lv_iconst C.1 C.2.1 dX11_sunAt_13 ic_5 ?_
    obtain ⟨hb11, hf⟩ := gd hf
    refine m_iald C hW hk10 hb11 dX11_sunAt_14 ?_
    refine lv_icmp_ge (tgt := 83) C.1 C.2.1 dX11_sunAt_15 rfl (fun c12 => ?_) (fun c12 => ?_)
    · have hf := (if_pos c12).symm.trans hf
      refine lv_iload_n C.1 C.2.1 dX11_sunAt_83 rfl (lv_at hl 2 rfl) ?_
      refine lv_iconst C.1 C.2.1 dX11_sunAt_84 ic_m1 ?_
      refine lv_icmp_ne (tgt := 92) C.1 C.2.1 dX11_sunAt_85 rfl (fun c13 => ?_) (fun c13 => ?_)
      · have hf := (if_neg c13).symm.trans hf
        refine lv_iload_n C.1 C.2.1 dX11_sunAt_92 rfl (lv_at hl 2 rfl) ?_
        cases hf
        exact m_iret C hW dX11_sunAt_93
      · have hf := (if_pos c13).symm.trans hf
        refine lv_iload_n C.1 C.2.1 dX11_sunAt_88 rfl (lv_at hl 3 rfl) ?_
        refine lv_goto (tgt := 93) C.1 C.2.1 dX11_sunAt_89 rfl ?_
        cases hf
        exact m_iret C hW dX11_sunAt_93
    · have hf := (if_neg c12).symm.trans hf
      refine lv_iload_n C.1 C.2.1 dX11_sunAt_18 rfl (lv_at hl 3 rfl) ?_
      refine lv_iconst C.1 C.2.1 dX11_sunAt_19 ic_m1 ?_
      refine lv_icmp_eq (tgt := 39) C.1 C.2.1 dX11_sunAt_20 rfl (fun c14 => ?_) (fun c14 => ?_)
      · have hf := (if_pos c14).symm.trans hf
        exact kX11_sunAt_39 ih C x0 x1 x2 x4 _ _ _ hx0 hW (lv_sub hl [0, 1, 2, 4] rfl) hf
      · have hf := (if_neg c14).symm.trans hf
        refine lv_aload_n C.1 C.2.1 dX11_sunAt_23 rfl (lv_at hl 0 rfl) ?_
        refine m_getr C hW hx0 flX11_19 (by decide) dX11_sunAt_24 (fun hk15 => ?_)
        refine lv_iload C.1 C.2.1 dX11_sunAt_27 (lv_at hl 4 rfl) ?_
        obtain ⟨hb16, hf⟩ := gd hf
        refine m_iald C hW hk15 hb16 dX11_sunAt_29 ?_
        refine lv_aload_n C.1 C.2.1 dX11_sunAt_30 rfl (lv_at hl 0 rfl) ?_
        refine m_getr C hW hx0 flX11_19 (by decide) dX11_sunAt_31 (fun hk17 => ?_)
        refine lv_iload_n C.1 C.2.1 dX11_sunAt_34 rfl (lv_at hl 3 rfl) ?_
        obtain ⟨hb18, hf⟩ := gd hf
        refine m_iald C hW hk17 hb18 dX11_sunAt_35 ?_
        refine lv_icmp_le (tgt := 42) C.1 C.2.1 dX11_sunAt_36 rfl (fun c19 => ?_) (fun c19 => ?_)
        · have hf := (if_pos c19).symm.trans hf
          exact kX11_sunAt_42 ih C x0 x1 x2 x3 x4 _ _ _ hx0 hW (lv_sub hl [0, 1, 2, 3, 4] rfl) hf
        · have hf := (if_neg c19).symm.trans hf
          exact kX11_sunAt_39 ih C x0 x1 x2 x4 _ _ _ hx0 hW (lv_sub hl [0, 1, 2, 4] rfl) hf

set_option maxRecDepth 100000 in
theorem cX11_sunAt_ok {l : Launch} {G : Gv} {L : List Nat} {S : MS} {a0 : Nat} {a1 : Int32} {q : Int32} (ha0 : a0 < shM.1 ∧ shM.2.1 a0 = 11) (hf : fX11_sunAt a0 a1 S = some q) : Mt l yX11_sunAt cX11_sunAt 5 (some .int) (1) G shM L S [.ref (ad L a0), .int a1] (some (.int q)) S := by
  refine m_enter (lv := [(0, .ref (ad L a0)), (1, .int a1)]) (plainFor_of_name (by decide)) (Nat.le_of_ble_eq_true rfl) rfl ?_
  intro p e s m below meth c A ls C hW hl
  unfold fX11_sunAt at hf
  refine lv_iconst C.1 C.2.1 dX11_sunAt_0 ic_m1 ?_
  refine lv_istore_n (lv' := [(2, .int (-1 : Int32)), (0, .ref (ad L a0)), (1, .int a1)]) C.1 C.2.1 dX11_sunAt_1 rfl hl (by decide) rfl (fun ls hl => ?_)
  refine lv_iconst C.1 C.2.1 dX11_sunAt_2 ic_m1 ?_
  refine lv_istore_n (lv' := [(3, .int (-1 : Int32)), (2, .int (-1 : Int32)), (0, .ref (ad L a0)), (1, .int a1)]) C.1 C.2.1 dX11_sunAt_3 rfl hl (by decide) rfl (fun ls hl => ?_)
  refine lv_iconst C.1 C.2.1 dX11_sunAt_4 ic_0 ?_
  refine lv_istore (lv' := [(4, .int (0 : Int32)), (3, .int (-1 : Int32)), (2, .int (-1 : Int32)), (0, .ref (ad L a0)), (1, .int a1)]) C.1 C.2.1 dX11_sunAt_5 hl (by decide) rfl (fun ls hl => ?_)
  exact kX11_sunAt_7  C 1000 a0 a1 (-1 : Int32) (-1 : Int32) (0 : Int32) _ _ _ ha0 hW (lv_sub hl [3, 4, 2, 1, 0] rfl) hf

def fX11_lampAt_102 (K7 : Nat → Int32 → Int32 → Int32 → Int32 → MS → Option Int32) (x0 : Nat) (x1 : Int32) (x2 : Int32) (x3 : Int32) (x4 : Int32) (S : MS) : Option Int32 := K7 x0 x1 x2 x3 (x4 + (1 : Int32)) S
def fX11_lampAt_96 (K7 : Nat → Int32 → Int32 → Int32 → Int32 → MS → Option Int32) (x0 : Nat) (x1 : Int32) (x4 : Int32) (x5 : Int32) (S : MS) : Option Int32 := fX11_lampAt_102 K7 x0 x1 x4 x5 x4 S
def fX11_lampAt_56 (K7 : Nat → Int32 → Int32 → Int32 → Int32 → MS → Option Int32) (x0 : Nat) (x1 : Int32) (x2 : Int32) (x3 : Int32) (x4 : Int32) (x5 : Int32) (S : MS) : Option Int32 := (if bnd x1 (lnM (gR S x0 50)) = true then (if ((gI S (gR S x0 50) x1.toNatClampNeg) >>> (x4 &&& 31)) &&& (1 : Int32) = (0 : Int32) then fX11_lampAt_102 K7 x0 x1 x2 x3 x4 S else (if bnd x4 (lnM (gR S x0 11)) = true then (if (gI S (gR S x0 11) x4.toNatClampNeg) < x5 then fX11_lampAt_102 K7 x0 x1 x2 x3 x4 S else (if x2 = (-1 : Int32) then fX11_lampAt_96 K7 x0 x1 x4 x5 S else (if x5 < x3 then fX11_lampAt_96 K7 x0 x1 x4 x5 S else fX11_lampAt_102 K7 x0 x1 x2 x3 x4 S))) else none)) else none)
def fX11_lampAt_7  : Nat → Nat → Int32 → Int32 → Int32 → Int32 → MS → Option Int32
  | 0, _, _, _, _, _, _ => none
  | n + 1, x0, x1, x2, x3, x4, S => (if bnd (6 : Int32) (lnM (gR S x0 3)) = true then (if (gI S (gR S x0 3) (6 : Int32).toNatClampNeg) ≤ x4 then some x2 else (if bnd x1 (lnM (gR S x0 46)) = true then (if bnd x4 (lnM (gR S x0 9)) = true then (if bnd x1 (lnM (gR S x0 47)) = true then (if bnd x4 (lnM (gR S x0 10)) = true then fX11_lampAt_56 (fX11_lampAt_7  n) x0 x1 x2 x3 x4 ((if 0 ≤ ((gI S (gR S x0 46) x1.toNatClampNeg) - (gI S (gR S x0 9) x4.toNatClampNeg)) then ((gI S (gR S x0 46) x1.toNatClampNeg) - (gI S (gR S x0 9) x4.toNatClampNeg)) else 0 - ((gI S (gR S x0 46) x1.toNatClampNeg) - (gI S (gR S x0 9) x4.toNatClampNeg))) + (if 0 ≤ ((gI S (gR S x0 47) x1.toNatClampNeg) - (gI S (gR S x0 10) x4.toNatClampNeg)) then ((gI S (gR S x0 47) x1.toNatClampNeg) - (gI S (gR S x0 10) x4.toNatClampNeg)) else 0 - ((gI S (gR S x0 47) x1.toNatClampNeg) - (gI S (gR S x0 10) x4.toNatClampNeg)))) S else none) else none) else none) else none)) else none)
def fX11_lampAt (a0 : Nat) (a1 : Int32) (S : MS) : Option Int32 := fX11_lampAt_7  1000 a0 a1 (-1 : Int32) (0 : Int32) (0 : Int32) S
set_option maxRecDepth 100000 in
theorem kX11_lampAt_102 {p : Program} {l : Launch} {e : Env} {s : State} {m : MethodId} {av : Array Value} {below : List Frame} {meth : Method} {c : Code} {A : Nat → Prop} {G : Gv} {L : List Nat} {S : MS} {q : Int32} {K7 : Nat → Int32 → Int32 → Int32 → Int32 → MS → Option Int32} (hK7 : ∀ (x0 : Nat) (x1 : Int32) (x2 : Int32) (x3 : Int32) (x4 : Int32) (H : Heap) (locs : List Loc) (ls : Array Slot), (x0 < shM.1 ∧ shM.2.1 x0 = 11) → mW G shM L S A s H locs → lv_has ls 6 [(0, .ref (ad L x0)), (1, .int x1), (2, .int x2), (3, .int x3), (4, .int x4)] → K7 x0 x1 x2 x3 x4 S = some q → W p l e (rmd (1)) s m av below meth c H locs 0 0 (MQ below (mQ G shM L S (some (.int q)) A) av s 0 0 A) (F0 m 7 ls [])) (C : mC p s m av meth c cX11_lampAt RX11 6 (some .int)) : ∀ (x0 : Nat) (x1 : Int32) (x2 : Int32) (x3 : Int32) (x4 : Int32) (H : Heap) (locs : List Loc) (ls : Array Slot), (x0 < shM.1 ∧ shM.2.1 x0 = 11) → mW G shM L S A s H locs → lv_has ls 6 [(0, .ref (ad L x0)), (1, .int x1), (2, .int x2), (3, .int x3), (4, .int x4)] → fX11_lampAt_102 K7 x0 x1 x2 x3 x4 S = some q → W p l e (rmd (1)) s m av below meth c H locs 0 0 (MQ below (mQ G shM L S (some (.int q)) A) av s 0 0 A) (F0 m 102 ls []) := by
  intro x0 x1 x2 x3 x4 H locs ls hx0 hW hl hf
  unfold fX11_lampAt_102 at hf
  refine lv_iinc (v := x4 + (1 : Int32)) (lv' := [(4, .int (x4 + (1 : Int32))), (0, .ref (ad L x0)), (1, .int x1), (2, .int x2), (3, .int x3)]) C.1 C.2.1 dX11_lampAt_102 hl (k := 4) rfl (congrArg (fun z => x4 + z) ic_1) (by decide) rfl (fun ls hl => ?_)
  refine lv_goto (tgt := 7) C.1 C.2.1 dX11_lampAt_105 rfl ?_
  exact hK7 x0 x1 x2 x3 (x4 + (1 : Int32)) _ _ _ hx0 hW (lv_sub hl [1, 2, 3, 4, 0] rfl) hf

set_option maxRecDepth 100000 in
theorem kX11_lampAt_96 {p : Program} {l : Launch} {e : Env} {s : State} {m : MethodId} {av : Array Value} {below : List Frame} {meth : Method} {c : Code} {A : Nat → Prop} {G : Gv} {L : List Nat} {S : MS} {q : Int32} {K7 : Nat → Int32 → Int32 → Int32 → Int32 → MS → Option Int32} (hK7 : ∀ (x0 : Nat) (x1 : Int32) (x2 : Int32) (x3 : Int32) (x4 : Int32) (H : Heap) (locs : List Loc) (ls : Array Slot), (x0 < shM.1 ∧ shM.2.1 x0 = 11) → mW G shM L S A s H locs → lv_has ls 6 [(0, .ref (ad L x0)), (1, .int x1), (2, .int x2), (3, .int x3), (4, .int x4)] → K7 x0 x1 x2 x3 x4 S = some q → W p l e (rmd (1)) s m av below meth c H locs 0 0 (MQ below (mQ G shM L S (some (.int q)) A) av s 0 0 A) (F0 m 7 ls [])) (C : mC p s m av meth c cX11_lampAt RX11 6 (some .int)) : ∀ (x0 : Nat) (x1 : Int32) (x4 : Int32) (x5 : Int32) (H : Heap) (locs : List Loc) (ls : Array Slot), (x0 < shM.1 ∧ shM.2.1 x0 = 11) → mW G shM L S A s H locs → lv_has ls 6 [(0, .ref (ad L x0)), (1, .int x1), (4, .int x4), (5, .int x5)] → fX11_lampAt_96 K7 x0 x1 x4 x5 S = some q → W p l e (rmd (1)) s m av below meth c H locs 0 0 (MQ below (mQ G shM L S (some (.int q)) A) av s 0 0 A) (F0 m 96 ls []) := by
  intro x0 x1 x4 x5 H locs ls hx0 hW hl hf
  unfold fX11_lampAt_96 at hf
  refine lv_iload C.1 C.2.1 dX11_lampAt_96 (lv_at hl 2 rfl) ?_
  refine lv_istore_n (lv' := [(2, .int x4), (0, .ref (ad L x0)), (1, .int x1), (4, .int x4), (5, .int x5)]) C.1 C.2.1 dX11_lampAt_98 rfl hl (by decide) rfl (fun ls hl => ?_)
  refine lv_iload C.1 C.2.1 dX11_lampAt_99 (lv_at hl 4 rfl) ?_
  refine lv_istore_n (lv' := [(3, .int x5), (2, .int x4), (0, .ref (ad L x0)), (1, .int x1), (4, .int x4), (5, .int x5)]) C.1 C.2.1 dX11_lampAt_101 rfl hl (by decide) rfl (fun ls hl => ?_)
  exact kX11_lampAt_102 hK7 C x0 x1 x4 x5 x4 _ _ _ hx0 hW (lv_sub hl [2, 3, 1, 0, 4] rfl) hf

set_option maxRecDepth 100000 in
theorem kX11_lampAt_56 {p : Program} {l : Launch} {e : Env} {s : State} {m : MethodId} {av : Array Value} {below : List Frame} {meth : Method} {c : Code} {A : Nat → Prop} {G : Gv} {L : List Nat} {S : MS} {q : Int32} {K7 : Nat → Int32 → Int32 → Int32 → Int32 → MS → Option Int32} (hK7 : ∀ (x0 : Nat) (x1 : Int32) (x2 : Int32) (x3 : Int32) (x4 : Int32) (H : Heap) (locs : List Loc) (ls : Array Slot), (x0 < shM.1 ∧ shM.2.1 x0 = 11) → mW G shM L S A s H locs → lv_has ls 6 [(0, .ref (ad L x0)), (1, .int x1), (2, .int x2), (3, .int x3), (4, .int x4)] → K7 x0 x1 x2 x3 x4 S = some q → W p l e (rmd (1)) s m av below meth c H locs 0 0 (MQ below (mQ G shM L S (some (.int q)) A) av s 0 0 A) (F0 m 7 ls [])) (C : mC p s m av meth c cX11_lampAt RX11 6 (some .int)) : ∀ (x0 : Nat) (x1 : Int32) (x2 : Int32) (x3 : Int32) (x4 : Int32) (x5 : Int32) (H : Heap) (locs : List Loc) (ls : Array Slot), (x0 < shM.1 ∧ shM.2.1 x0 = 11) → mW G shM L S A s H locs → lv_has ls 6 [(0, .ref (ad L x0)), (1, .int x1), (2, .int x2), (3, .int x3), (4, .int x4), (5, .int x5)] → fX11_lampAt_56 K7 x0 x1 x2 x3 x4 x5 S = some q → W p l e (rmd (1)) s m av below meth c H locs 0 0 (MQ below (mQ G shM L S (some (.int q)) A) av s 0 0 A) (F0 m 56 ls []) := by
  intro x0 x1 x2 x3 x4 x5 H locs ls hx0 hW hl hf
  unfold fX11_lampAt_56 at hf
  refine lv_aload_n C.1 C.2.1 dX11_lampAt_56 rfl (lv_at hl 0 rfl) ?_
  refine m_getr C hW hx0 flX11_114 (by decide) dX11_lampAt_57 (fun hk1 => ?_)
  refine lv_iload_n C.1 C.2.1 dX11_lampAt_60 rfl (lv_at hl 1 rfl) ?_
  obtain ⟨hb2, hf⟩ := gd hf
  refine m_iald C hW hk1 hb2 dX11_lampAt_61 ?_
  refine lv_iload C.1 C.2.1 dX11_lampAt_62 (lv_at hl 4 rfl) ?_
  refine lv_ishr C.1 C.2.1 dX11_lampAt_64 ?_
  refine lv_iconst C.1 C.2.1 dX11_lampAt_65 ic_1 ?_
  refine lv_iand C.1 C.2.1 dX11_lampAt_66 ?_
  refine lv_if_eq (tgt := 102) C.1 C.2.1 dX11_lampAt_67 rfl (fun c3 => ?_) (fun c3 => ?_)
  · have hf := (if_pos c3).symm.trans hf
    exact kX11_lampAt_102 hK7 C x0 x1 x2 x3 x4 _ _ _ hx0 hW (lv_sub hl [0, 1, 2, 3, 4] rfl) hf
  · have hf := (if_neg c3).symm.trans hf
    refine lv_iload C.1 C.2.1 dX11_lampAt_70 (lv_at hl 5 rfl) ?_
    refine lv_aload_n C.1 C.2.1 dX11_lampAt_72 rfl (lv_at hl 0 rfl) ?_
    refine m_getr C hW hx0 flX11_37 (by decide) dX11_lampAt_73 (fun hk4 => ?_)
    refine lv_iload C.1 C.2.1 dX11_lampAt_76 (lv_at hl 4 rfl) ?_
    obtain ⟨hb5, hf⟩ := gd hf
    refine m_iald C hW hk4 hb5 dX11_lampAt_78 ?_
    refine lv_icmp_gt (tgt := 102) C.1 C.2.1 dX11_lampAt_79 rfl (fun c6 => ?_) (fun c6 => ?_)
    · have hf := (if_pos c6).symm.trans hf
      exact kX11_lampAt_102 hK7 C x0 x1 x2 x3 x4 _ _ _ hx0 hW (lv_sub hl [0, 1, 2, 3, 4] rfl) hf
    · have hf := (if_neg c6).symm.trans hf
      refine lv_iload_n C.1 C.2.1 dX11_lampAt_82 rfl (lv_at hl 2 rfl) ?_
      refine lv_iconst C.1 C.2.1 dX11_lampAt_83 ic_m1 ?_
      refine lv_icmp_eq (tgt := 96) C.1 C.2.1 dX11_lampAt_84 rfl (fun c7 => ?_) (fun c7 => ?_)
      · have hf := (if_pos c7).symm.trans hf
        exact kX11_lampAt_96 hK7 C x0 x1 x4 x5 _ _ _ hx0 hW (lv_sub hl [0, 1, 4, 5] rfl) hf
      · have hf := (if_neg c7).symm.trans hf
        refine lv_iload C.1 C.2.1 dX11_lampAt_87 (lv_at hl 5 rfl) ?_
        refine lv_iload_n C.1 C.2.1 dX11_lampAt_89 rfl (lv_at hl 3 rfl) ?_
        refine lv_icmp_lt (tgt := 96) C.1 C.2.1 dX11_lampAt_90 rfl (fun c8 => ?_) (fun c8 => ?_)
        · have hf := (if_pos c8).symm.trans hf
          exact kX11_lampAt_96 hK7 C x0 x1 x4 x5 _ _ _ hx0 hW (lv_sub hl [0, 1, 4, 5] rfl) hf
        · have hf := (if_neg c8).symm.trans hf
          refine lv_goto (tgt := 102) C.1 C.2.1 dX11_lampAt_93 rfl ?_
          exact kX11_lampAt_102 hK7 C x0 x1 x2 x3 x4 _ _ _ hx0 hW (lv_sub hl [0, 1, 2, 3, 4] rfl) hf

set_option maxRecDepth 100000 in
theorem kX11_lampAt_7 {p : Program} {l : Launch} {e : Env} {s : State} {m : MethodId} {av : Array Value} {below : List Frame} {meth : Method} {c : Code} {A : Nat → Prop} {G : Gv} {L : List Nat} {S : MS} {q : Int32}  (C : mC p s m av meth c cX11_lampAt RX11 6 (some .int)) : ∀ (n : Nat) (x0 : Nat) (x1 : Int32) (x2 : Int32) (x3 : Int32) (x4 : Int32) (H : Heap) (locs : List Loc) (ls : Array Slot), (x0 < shM.1 ∧ shM.2.1 x0 = 11) → mW G shM L S A s H locs → lv_has ls 6 [(0, .ref (ad L x0)), (1, .int x1), (2, .int x2), (3, .int x3), (4, .int x4)] → fX11_lampAt_7  n x0 x1 x2 x3 x4 S = some q → W p l e (rmd (1)) s m av below meth c H locs 0 0 (MQ below (mQ G shM L S (some (.int q)) A) av s 0 0 A) (F0 m 7 ls []) := by
  intro n
  induction n with
  | zero =>
    intro x0 x1 x2 x3 x4 H locs ls hx0 hW hl hf
    rw [fX11_lampAt_7] at hf
    cases hf
  | succ n ih =>
    intro x0 x1 x2 x3 x4 H locs ls hx0 hW hl hf
    rw [fX11_lampAt_7] at hf
    refine lv_iload C.1 C.2.1 dX11_lampAt_7 (lv_at hl 4 rfl) ?_
    refine lv_aload_n C.1 C.2.1 dX11_lampAt_9 rfl (lv_at hl 0 rfl) ?_
    refine m_getr C hW hx0 flX11_13 (by decide) dX11_lampAt_10 (fun hk9 => ?_)
    refine lv_bipush C.1 C.2.1 dX11_lampAt_13 bp_6 ?_
    obtain ⟨hb10, hf⟩ := gd hf
    refine m_iald C hW hk9 hb10 dX11_lampAt_15 ?_
    refine lv_icmp_ge (tgt := 108) C.1 C.2.1 dX11_lampAt_16 rfl (fun c11 => ?_) (fun c11 => ?_)
    · have hf := (if_pos c11).symm.trans hf
      refine lv_iload_n C.1 C.2.1 dX11_lampAt_108 rfl (lv_at hl 2 rfl) ?_
      cases hf
      exact m_iret C hW dX11_lampAt_109
    · have hf := (if_neg c11).symm.trans hf
      refine lv_aload_n C.1 C.2.1 dX11_lampAt_19 rfl (lv_at hl 0 rfl) ?_
      refine m_getr C hW hx0 flX11_102 (by decide) dX11_lampAt_20 (fun hk12 => ?_)
      refine lv_iload_n C.1 C.2.1 dX11_lampAt_23 rfl (lv_at hl 1 rfl) ?_
      obtain ⟨hb13, hf⟩ := gd hf
      refine m_iald C hW hk12 hb13 dX11_lampAt_24 ?_
      refine lv_aload_n C.1 C.2.1 dX11_lampAt_25 rfl (lv_at hl 0 rfl) ?_
      refine m_getr C hW hx0 flX11_31 (by decide) dX11_lampAt_26 (fun hk14 => ?_)
      refine lv_iload C.1 C.2.1 dX11_lampAt_29 (lv_at hl 4 rfl) ?_
      obtain ⟨hb15, hf⟩ := gd hf
      refine m_iald C hW hk14 hb15 dX11_lampAt_31 ?_
      refine lv_isub C.1 C.2.1 dX11_lampAt_32 ?_
      refine va_mabs C.1 C.2.1 (C.2.2.1.trans hl.1.symm) C.2.2.2.1 (C.2.2.2.2.1 _ kw_1774) (C.2.2.2.2.1 _ kw_910) (C.2.2.2.2.1 _ kw_135) (C.2.2.2.2.1 _ kw_911) (Nat.le_of_ble_eq_true rfl) (Nat.le_of_ble_eq_true rfl) (Nat.le_refl 0) (Nat.le_refl 0) dX11_lampAt_33 ?_
      refine lv_aload_n C.1 C.2.1 dX11_lampAt_36 rfl (lv_at hl 0 rfl) ?_
      refine m_getr C hW hx0 flX11_105 (by decide) dX11_lampAt_37 (fun hk16 => ?_)
      refine lv_iload_n C.1 C.2.1 dX11_lampAt_40 rfl (lv_at hl 1 rfl) ?_
      obtain ⟨hb17, hf⟩ := gd hf
      refine m_iald C hW hk16 hb17 dX11_lampAt_41 ?_
      refine lv_aload_n C.1 C.2.1 dX11_lampAt_42 rfl (lv_at hl 0 rfl) ?_
      refine m_getr C hW hx0 flX11_34 (by decide) dX11_lampAt_43 (fun hk18 => ?_)
      refine lv_iload C.1 C.2.1 dX11_lampAt_46 (lv_at hl 4 rfl) ?_
      obtain ⟨hb19, hf⟩ := gd hf
      refine m_iald C hW hk18 hb19 dX11_lampAt_48 ?_
      refine lv_isub C.1 C.2.1 dX11_lampAt_49 ?_
      refine va_mabs C.1 C.2.1 (C.2.2.1.trans hl.1.symm) C.2.2.2.1 (C.2.2.2.2.1 _ kw_1774) (C.2.2.2.2.1 _ kw_910) (C.2.2.2.2.1 _ kw_135) (C.2.2.2.2.1 _ kw_911) (Nat.le_of_ble_eq_true rfl) (Nat.le_of_ble_eq_true rfl) (Nat.le_refl 0) (Nat.le_refl 0) dX11_lampAt_50 ?_
      refine lv_iadd C.1 C.2.1 dX11_lampAt_53 ?_
      refine lv_istore (lv' := [(5, .int ((if 0 ≤ ((gI S (gR S x0 46) x1.toNatClampNeg) - (gI S (gR S x0 9) x4.toNatClampNeg)) then ((gI S (gR S x0 46) x1.toNatClampNeg) - (gI S (gR S x0 9) x4.toNatClampNeg)) else 0 - ((gI S (gR S x0 46) x1.toNatClampNeg) - (gI S (gR S x0 9) x4.toNatClampNeg))) + (if 0 ≤ ((gI S (gR S x0 47) x1.toNatClampNeg) - (gI S (gR S x0 10) x4.toNatClampNeg)) then ((gI S (gR S x0 47) x1.toNatClampNeg) - (gI S (gR S x0 10) x4.toNatClampNeg)) else 0 - ((gI S (gR S x0 47) x1.toNatClampNeg) - (gI S (gR S x0 10) x4.toNatClampNeg))))), (0, .ref (ad L x0)), (1, .int x1), (2, .int x2), (3, .int x3), (4, .int x4)]) C.1 C.2.1 dX11_lampAt_54 hl (by decide) rfl (fun ls hl => ?_)
      exact kX11_lampAt_56 ih C x0 x1 x2 x3 x4 ((if 0 ≤ ((gI S (gR S x0 46) x1.toNatClampNeg) - (gI S (gR S x0 9) x4.toNatClampNeg)) then ((gI S (gR S x0 46) x1.toNatClampNeg) - (gI S (gR S x0 9) x4.toNatClampNeg)) else 0 - ((gI S (gR S x0 46) x1.toNatClampNeg) - (gI S (gR S x0 9) x4.toNatClampNeg))) + (if 0 ≤ ((gI S (gR S x0 47) x1.toNatClampNeg) - (gI S (gR S x0 10) x4.toNatClampNeg)) then ((gI S (gR S x0 47) x1.toNatClampNeg) - (gI S (gR S x0 10) x4.toNatClampNeg)) else 0 - ((gI S (gR S x0 47) x1.toNatClampNeg) - (gI S (gR S x0 10) x4.toNatClampNeg)))) _ _ _ hx0 hW (lv_sub hl [1, 2, 3, 4, 5, 0] rfl) hf

set_option maxRecDepth 100000 in
theorem cX11_lampAt_ok {l : Launch} {G : Gv} {L : List Nat} {S : MS} {a0 : Nat} {a1 : Int32} {q : Int32} (ha0 : a0 < shM.1 ∧ shM.2.1 a0 = 11) (hf : fX11_lampAt a0 a1 S = some q) : Mt l yX11_lampAt cX11_lampAt 6 (some .int) (1) G shM L S [.ref (ad L a0), .int a1] (some (.int q)) S := by
  refine m_enter (lv := [(0, .ref (ad L a0)), (1, .int a1)]) (plainFor_of_name (by decide)) (Nat.le_of_ble_eq_true rfl) rfl ?_
  intro p e s m below meth c A ls C hW hl
  unfold fX11_lampAt at hf
  refine lv_iconst C.1 C.2.1 dX11_lampAt_0 ic_m1 ?_
  refine lv_istore_n (lv' := [(2, .int (-1 : Int32)), (0, .ref (ad L a0)), (1, .int a1)]) C.1 C.2.1 dX11_lampAt_1 rfl hl (by decide) rfl (fun ls hl => ?_)
  refine lv_iconst C.1 C.2.1 dX11_lampAt_2 ic_0 ?_
  refine lv_istore_n (lv' := [(3, .int (0 : Int32)), (2, .int (-1 : Int32)), (0, .ref (ad L a0)), (1, .int a1)]) C.1 C.2.1 dX11_lampAt_3 rfl hl (by decide) rfl (fun ls hl => ?_)
  refine lv_iconst C.1 C.2.1 dX11_lampAt_4 ic_0 ?_
  refine lv_istore (lv' := [(4, .int (0 : Int32)), (3, .int (0 : Int32)), (2, .int (-1 : Int32)), (0, .ref (ad L a0)), (1, .int a1)]) C.1 C.2.1 dX11_lampAt_5 hl (by decide) rfl (fun ls hl => ?_)
  exact kX11_lampAt_7  C 1000 a0 a1 (-1 : Int32) (0 : Int32) (0 : Int32) _ _ _ ha0 hW (lv_sub hl [3, 4, 2, 1, 0] rfl) hf

def fX11_isCloudy_41  (x3 : Int32) (S : MS) : Option (Int32 × MS) := (if x3 < (50 : Int32) then some ((0 : Int32), S) else some ((1 : Int32), S))
def fX11_isCloudy_77  (x0 : Nat) (x1 : Int32) (x3 : Int32) (S : MS) : Option (Int32 × MS) := (if bnd x1 (lnM (gR S x0 44)) = true then (if x3 ≤ (((gI S (gR S x0 44) x1.toNatClampNeg) >>> ((16 : Int32) &&& 31)) - (((gI S (gR S x0 44) x1.toNatClampNeg) >>> ((16 : Int32) &&& 31)) / (100 : Int32)) * (100 : Int32)) then some ((0 : Int32), S) else some ((1 : Int32), S)) else none)
def fX11_isCloudy (a0 : Nat) (a1 : Int32) (a2 : Int32) (S : MS) : Option (Int32 × MS) := (if bnd (5 : Int32) (lnM (gR S a0 3)) = true then (if gI S (gR S a0 3) (5 : Int32).toNatClampNeg = (0 : Int32) then some ((0 : Int32), S) else (if gI S a0 57 = (1 : Int32) then some ((0 : Int32), S) else (if bnd (10 : Int32) (lnM (gR S a0 3)) = true then (if a2 = (0 : Int32) then fX11_isCloudy_41  (gI S (gR S a0 3) (10 : Int32).toNatClampNeg) S else (if gI S (gR S a0 3) (10 : Int32).toNatClampNeg = (0 : Int32) then fX11_isCloudy_41  (gI S (gR S a0 3) (10 : Int32).toNatClampNeg) S else (if gI S (gR S a0 3) (10 : Int32).toNatClampNeg = (100 : Int32) then fX11_isCloudy_41  (gI S (gR S a0 3) (10 : Int32).toNatClampNeg) S else (if bnd a1 (lnM (gR S a0 44)) = true then (if bnd a1 (lnM (gR S a0 44)) = true then fX11_isCloudy_77  a0 a1 (gI S (gR S a0 3) (10 : Int32).toNatClampNeg) (pI S (gR S a0 44) a1.toNatClampNeg ((((gI S (gR S a0 44) a1.toNatClampNeg) * (1103515245 : Int32)) + (12345 : Int32)) &&& (2147483647 : Int32))) else none) else none)))) else none))) else none)
set_option maxRecDepth 100000 in
theorem kX11_isCloudy_41 {p : Program} {l : Launch} {e : Env} {s : State} {m : MethodId} {av : Array Value} {below : List Frame} {meth : Method} {c : Code} {A : Nat → Prop} {G : Gv} {L : List Nat} {q : (Int32 × MS)}  (C : mC p s m av meth c cX11_isCloudy RX11 4 (some .boolean)) : ∀ (x3 : Int32) (S : MS) (H : Heap) (locs : List Loc) (ls : Array Slot), mW G shM L S A s H locs → lv_has ls 4 [(3, .int x3)] → fX11_isCloudy_41  x3 S = some q → W p l e (rmd (1)) s m av below meth c H locs 0 0 (MQ below (mQ G shM L q.2 (some (.int q.1)) A) av s 0 0 A) (F0 m 41 ls []) := by
  intro x3 S H locs ls  hW hl hf
  unfold fX11_isCloudy_41 at hf
  refine lv_iload_n C.1 C.2.1 dX11_isCloudy_41 rfl (lv_at hl 0 rfl) ?_
  refine lv_bipush C.1 C.2.1 dX11_isCloudy_42 bp_50 ?_
  refine lv_icmp_lt (tgt := 51) C.1 C.2.1 dX11_isCloudy_44 rfl (fun c1 => ?_) (fun c1 => ?_)
  · have hf := (if_pos c1).symm.trans hf
    refine lv_iconst C.1 C.2.1 dX11_isCloudy_51 ic_0 ?_
    cases hf
    exact m_zret C hW rfl dX11_isCloudy_52
  · have hf := (if_neg c1).symm.trans hf
    refine lv_iconst C.1 C.2.1 dX11_isCloudy_47 ic_1 ?_
    refine lv_goto (tgt := 52) C.1 C.2.1 dX11_isCloudy_48 rfl ?_
    cases hf
    exact m_zret C hW rfl dX11_isCloudy_52

set_option maxRecDepth 100000 in
theorem kX11_isCloudy_77 {p : Program} {l : Launch} {e : Env} {s : State} {m : MethodId} {av : Array Value} {below : List Frame} {meth : Method} {c : Code} {A : Nat → Prop} {G : Gv} {L : List Nat} {q : (Int32 × MS)}  (C : mC p s m av meth c cX11_isCloudy RX11 4 (some .boolean)) : ∀ (x0 : Nat) (x1 : Int32) (x3 : Int32) (S : MS) (H : Heap) (locs : List Loc) (ls : Array Slot), (x0 < shM.1 ∧ shM.2.1 x0 = 11) → mW G shM L S A s H locs → lv_has ls 4 [(0, .ref (ad L x0)), (1, .int x1), (3, .int x3)] → fX11_isCloudy_77  x0 x1 x3 S = some q → W p l e (rmd (1)) s m av below meth c H locs 0 0 (MQ below (mQ G shM L q.2 (some (.int q.1)) A) av s 0 0 A) (F0 m 77 ls []) := by
  intro x0 x1 x3 S H locs ls hx0 hW hl hf
  unfold fX11_isCloudy_77 at hf
  refine lv_aload_n C.1 C.2.1 dX11_isCloudy_77 rfl (lv_at hl 0 rfl) ?_
  refine m_getr C hW hx0 flX11_96 (by decide) dX11_isCloudy_78 (fun hk2 => ?_)
  refine lv_iload_n C.1 C.2.1 dX11_isCloudy_81 rfl (lv_at hl 1 rfl) ?_
  obtain ⟨hb3, hf⟩ := gd hf
  refine m_iald C hW hk2 hb3 dX11_isCloudy_82 ?_
  refine lv_bipush C.1 C.2.1 dX11_isCloudy_83 bp_16 ?_
  refine lv_ishr C.1 C.2.1 dX11_isCloudy_85 ?_
  refine lv_bipush C.1 C.2.1 dX11_isCloudy_86 bp_100 ?_
  refine lv_irem C.1 C.2.1 dX11_isCloudy_88 (by decide) ?_
  refine lv_iload_n C.1 C.2.1 dX11_isCloudy_89 rfl (lv_at hl 2 rfl) ?_
  refine lv_icmp_ge (tgt := 97) C.1 C.2.1 dX11_isCloudy_90 rfl (fun c4 => ?_) (fun c4 => ?_)
  · have hf := (if_pos c4).symm.trans hf
    refine lv_iconst C.1 C.2.1 dX11_isCloudy_97 ic_0 ?_
    cases hf
    exact m_zret C hW rfl dX11_isCloudy_98
  · have hf := (if_neg c4).symm.trans hf
    refine lv_iconst C.1 C.2.1 dX11_isCloudy_93 ic_1 ?_
    refine lv_goto (tgt := 98) C.1 C.2.1 dX11_isCloudy_94 rfl ?_
    cases hf
    exact m_zret C hW rfl dX11_isCloudy_98

set_option maxRecDepth 100000 in
theorem cX11_isCloudy_ok {l : Launch} {G : Gv} {L : List Nat} {S : MS} {a0 : Nat} {a1 : Int32} {a2 : Int32} {q : (Int32 × MS)} (ha0 : a0 < shM.1 ∧ shM.2.1 a0 = 11) (hf : fX11_isCloudy a0 a1 a2 S = some q) : Mt l yX11_isCloudy cX11_isCloudy 4 (some .boolean) (1) G shM L S [.ref (ad L a0), .int a1, .int a2] (some (.int q.1)) q.2 := by
  refine m_enter (lv := [(0, .ref (ad L a0)), (1, .int a1), (2, .int a2)]) (plainFor_of_name (by decide)) (Nat.le_of_ble_eq_true rfl) rfl ?_
  intro p e s m below meth c A ls C hW hl
  unfold fX11_isCloudy at hf
  refine lv_aload_n C.1 C.2.1 dX11_isCloudy_0 rfl (lv_at hl 0 rfl) ?_
  refine m_getr C hW ha0 flX11_13 (by decide) dX11_isCloudy_1 (fun hk5 => ?_)
  refine lv_iconst C.1 C.2.1 dX11_isCloudy_4 ic_5 ?_
  obtain ⟨hb6, hf⟩ := gd hf
  refine m_iald C hW hk5 hb6 dX11_isCloudy_5 ?_
  refine lv_if_eq (tgt := 17) C.1 C.2.1 dX11_isCloudy_6 rfl (fun c7 => ?_) (fun c7 => ?_)
  · have hf := (if_pos c7).symm.trans hf
    refine lv_iconst C.1 C.2.1 dX11_isCloudy_17 ic_0 ?_
    cases hf
    exact m_zret C hW rfl dX11_isCloudy_18
  · have hf := (if_neg c7).symm.trans hf
    refine lv_aload_n C.1 C.2.1 dX11_isCloudy_9 rfl (lv_at hl 0 rfl) ?_
    refine m_geti C hW ha0 flX11_409 dX11_isCloudy_10 ?_
    refine lv_iconst C.1 C.2.1 dX11_isCloudy_13 ic_1 ?_
    refine lv_icmp_ne (tgt := 19) C.1 C.2.1 dX11_isCloudy_14 rfl (fun c8 => ?_) (fun c8 => ?_)
    · have hf := (if_neg c8).symm.trans hf
      refine lv_aload_n C.1 C.2.1 dX11_isCloudy_19 rfl (lv_at hl 0 rfl) ?_
      refine m_getr C hW ha0 flX11_13 (by decide) dX11_isCloudy_20 (fun hk9 => ?_)
      refine lv_bipush C.1 C.2.1 dX11_isCloudy_23 bp_10 ?_
      obtain ⟨hb10, hf⟩ := gd hf
      refine m_iald C hW hk9 hb10 dX11_isCloudy_25 ?_
      refine lv_istore_n (lv' := [(3, .int (gI S (gR S a0 3) (10 : Int32).toNatClampNeg)), (0, .ref (ad L a0)), (1, .int a1), (2, .int a2)]) C.1 C.2.1 dX11_isCloudy_26 rfl hl (by decide) rfl (fun ls hl => ?_)
      refine lv_iload_n C.1 C.2.1 dX11_isCloudy_27 rfl (lv_at hl 3 rfl) ?_
      refine lv_if_eq (tgt := 41) C.1 C.2.1 dX11_isCloudy_28 rfl (fun c11 => ?_) (fun c11 => ?_)
      · have hf := (if_pos c11).symm.trans hf
        exact kX11_isCloudy_41  C (gI S (gR S a0 3) (10 : Int32).toNatClampNeg) _ _ _ _  hW (lv_sub hl [0] rfl) hf
      · have hf := (if_neg c11).symm.trans hf
        refine lv_iload_n C.1 C.2.1 dX11_isCloudy_31 rfl (lv_at hl 0 rfl) ?_
        refine lv_if_eq (tgt := 41) C.1 C.2.1 dX11_isCloudy_32 rfl (fun c12 => ?_) (fun c12 => ?_)
        · have hf := (if_pos c12).symm.trans hf
          exact kX11_isCloudy_41  C (gI S (gR S a0 3) (10 : Int32).toNatClampNeg) _ _ _ _  hW (lv_sub hl [0] rfl) hf
        · have hf := (if_neg c12).symm.trans hf
          refine lv_iload_n C.1 C.2.1 dX11_isCloudy_35 rfl (lv_at hl 0 rfl) ?_
          refine lv_bipush C.1 C.2.1 dX11_isCloudy_36 bp_100 ?_
          refine lv_icmp_ne (tgt := 53) C.1 C.2.1 dX11_isCloudy_38 rfl (fun c13 => ?_) (fun c13 => ?_)
          · have hf := (if_neg c13).symm.trans hf
            refine lv_aload_n C.1 C.2.1 dX11_isCloudy_53 rfl (lv_at hl 1 rfl) ?_
            refine m_getr C hW ha0 flX11_96 (by decide) dX11_isCloudy_54 (fun hk14 => ?_)
            refine lv_iload_n C.1 C.2.1 dX11_isCloudy_57 rfl (lv_at hl 2 rfl) ?_
            refine lv_aload_n C.1 C.2.1 dX11_isCloudy_58 rfl (lv_at hl 1 rfl) ?_
            refine m_getr C hW ha0 flX11_96 (by decide) dX11_isCloudy_59 (fun hk15 => ?_)
            refine lv_iload_n C.1 C.2.1 dX11_isCloudy_62 rfl (lv_at hl 2 rfl) ?_
            obtain ⟨hb16, hf⟩ := gd hf
            refine m_iald C hW hk15 hb16 dX11_isCloudy_63 ?_
            refine lv_ldcw C.1 C.2.1 C.2.2.2.1 (C.2.2.2.2.1 _ kw_1756) dX11_isCloudy_64 ?_
            refine lv_imul C.1 C.2.1 dX11_isCloudy_67 ?_
            refine lv_sipush C.1 C.2.1 dX11_isCloudy_68 sp_12345 ?_
            refine lv_iadd C.1 C.2.1 dX11_isCloudy_71 ?_
            refine lv_ldcw C.1 C.2.1 C.2.2.2.1 (C.2.2.2.2.1 _ kw_1757) dX11_isCloudy_72 ?_
            refine lv_iand C.1 C.2.1 dX11_isCloudy_75 ?_
            obtain ⟨hb17, hf⟩ := gd hf
            refine m_iast C hW hk14 hb17 dX11_isCloudy_76 (fun H locs hW => ?_)
            exact kX11_isCloudy_77  C a0 a1 (gI S (gR S a0 3) (10 : Int32).toNatClampNeg) _ _ _ _ ha0 hW (lv_sub hl [1, 2, 0] rfl) hf
          · have hf := (if_pos c13).symm.trans hf
            exact kX11_isCloudy_41  C (gI S (gR S a0 3) (10 : Int32).toNatClampNeg) _ _ _ _  hW (lv_sub hl [0] rfl) hf
    · have hf := (if_pos c8).symm.trans hf
      refine lv_iconst C.1 C.2.1 dX11_isCloudy_17 ic_0 ?_
      cases hf
      exact m_zret C hW rfl dX11_isCloudy_18

def fX11_isHerAt (a0 : Nat) (a1 : Int32) (a2 : Int32) (a3 : Int32) (S : MS) : Option Int32 := (if bnd a1 (lnM (gR S a0 46)) = true then (if gI S (gR S a0 46) a1.toNatClampNeg = a2 then (if bnd a1 (lnM (gR S a0 47)) = true then (if gI S (gR S a0 47) a1.toNatClampNeg = a3 then some (1 : Int32) else some (0 : Int32)) else none) else some (0 : Int32)) else none)
set_option maxRecDepth 100000 in
theorem cX11_isHerAt_ok {l : Launch} {G : Gv} {L : List Nat} {S : MS} {a0 : Nat} {a1 : Int32} {a2 : Int32} {a3 : Int32} {q : Int32} (ha0 : a0 < shM.1 ∧ shM.2.1 a0 = 11) (hf : fX11_isHerAt a0 a1 a2 a3 S = some q) : Mt l yX11_isHerAt cX11_isHerAt 4 (some .boolean) (1) G shM L S [.ref (ad L a0), .int a1, .int a2, .int a3] (some (.int q)) S := by
  refine m_enter (lv := [(0, .ref (ad L a0)), (1, .int a1), (2, .int a2), (3, .int a3)]) (plainFor_of_name (by decide)) (Nat.le_of_ble_eq_true rfl) rfl ?_
  intro p e s m below meth c A ls C hW hl
  unfold fX11_isHerAt at hf
  refine lv_aload_n C.1 C.2.1 dX11_isHerAt_0 rfl (lv_at hl 0 rfl) ?_
  refine m_getr C hW ha0 flX11_102 (by decide) dX11_isHerAt_1 (fun hk1 => ?_)
  refine lv_iload_n C.1 C.2.1 dX11_isHerAt_4 rfl (lv_at hl 1 rfl) ?_
  obtain ⟨hb2, hf⟩ := gd hf
  refine m_iald C hW hk1 hb2 dX11_isHerAt_5 ?_
  refine lv_iload_n C.1 C.2.1 dX11_isHerAt_6 rfl (lv_at hl 2 rfl) ?_
  refine lv_icmp_ne (tgt := 24) C.1 C.2.1 dX11_isHerAt_7 rfl (fun c3 => ?_) (fun c3 => ?_)
  · have hf := (if_neg c3).symm.trans hf
    refine lv_iconst C.1 C.2.1 dX11_isHerAt_24 ic_0 ?_
    cases hf
    exact m_zret C hW rfl dX11_isHerAt_25
  · have hf := (if_pos c3).symm.trans hf
    refine lv_aload_n C.1 C.2.1 dX11_isHerAt_10 rfl (lv_at hl 0 rfl) ?_
    refine m_getr C hW ha0 flX11_105 (by decide) dX11_isHerAt_11 (fun hk4 => ?_)
    refine lv_iload_n C.1 C.2.1 dX11_isHerAt_14 rfl (lv_at hl 1 rfl) ?_
    obtain ⟨hb5, hf⟩ := gd hf
    refine m_iald C hW hk4 hb5 dX11_isHerAt_15 ?_
    refine lv_iload_n C.1 C.2.1 dX11_isHerAt_16 rfl (lv_at hl 3 rfl) ?_
    refine lv_icmp_ne (tgt := 24) C.1 C.2.1 dX11_isHerAt_17 rfl (fun c6 => ?_) (fun c6 => ?_)
    · have hf := (if_neg c6).symm.trans hf
      refine lv_iconst C.1 C.2.1 dX11_isHerAt_24 ic_0 ?_
      cases hf
      exact m_zret C hW rfl dX11_isHerAt_25
    · have hf := (if_pos c6).symm.trans hf
      refine lv_iconst C.1 C.2.1 dX11_isHerAt_20 ic_1 ?_
      refine lv_goto (tgt := 25) C.1 C.2.1 dX11_isHerAt_21 rfl ?_
      cases hf
      exact m_zret C hW rfl dX11_isHerAt_25

def fX11_isItAt (a0 : Nat) (a1 : Int32) (a2 : Int32) (S : MS) : Option Int32 := (if gI S a0 60 = (0 : Int32) then (if gI S a0 58 = a1 then (if gI S a0 59 = a2 then some (1 : Int32) else some (0 : Int32)) else some (0 : Int32)) else some (0 : Int32))
set_option maxRecDepth 100000 in
theorem cX11_isItAt_ok {l : Launch} {G : Gv} {L : List Nat} {S : MS} {a0 : Nat} {a1 : Int32} {a2 : Int32} {q : Int32} (ha0 : a0 < shM.1 ∧ shM.2.1 a0 = 11) (hf : fX11_isItAt a0 a1 a2 S = some q) : Mt l yX11_isItAt cX11_isItAt 3 (some .boolean) (1) G shM L S [.ref (ad L a0), .int a1, .int a2] (some (.int q)) S := by
  refine m_enter (lv := [(0, .ref (ad L a0)), (1, .int a1), (2, .int a2)]) (plainFor_of_name (by decide)) (Nat.le_of_ble_eq_true rfl) rfl ?_
  intro p e s m below meth c A ls C hW hl
  unfold fX11_isItAt at hf
  refine lv_aload_n C.1 C.2.1 dX11_isItAt_0 rfl (lv_at hl 0 rfl) ?_
  refine m_geti C hW ha0 flX11_403 dX11_isItAt_1 ?_
  refine lv_if_ne (tgt := 27) C.1 C.2.1 dX11_isItAt_4 rfl (fun c1 => ?_) (fun c1 => ?_)
  · have hf := (if_neg c1).symm.trans hf
    refine lv_iconst C.1 C.2.1 dX11_isItAt_27 ic_0 ?_
    cases hf
    exact m_zret C hW rfl dX11_isItAt_28
  · have hf := (if_pos c1).symm.trans hf
    refine lv_aload_n C.1 C.2.1 dX11_isItAt_7 rfl (lv_at hl 0 rfl) ?_
    refine m_geti C hW ha0 flX11_387 dX11_isItAt_8 ?_
    refine lv_iload_n C.1 C.2.1 dX11_isItAt_11 rfl (lv_at hl 1 rfl) ?_
    refine lv_icmp_ne (tgt := 27) C.1 C.2.1 dX11_isItAt_12 rfl (fun c2 => ?_) (fun c2 => ?_)
    · have hf := (if_neg c2).symm.trans hf
      refine lv_iconst C.1 C.2.1 dX11_isItAt_27 ic_0 ?_
      cases hf
      exact m_zret C hW rfl dX11_isItAt_28
    · have hf := (if_pos c2).symm.trans hf
      refine lv_aload_n C.1 C.2.1 dX11_isItAt_15 rfl (lv_at hl 0 rfl) ?_
      refine m_geti C hW ha0 flX11_393 dX11_isItAt_16 ?_
      refine lv_iload_n C.1 C.2.1 dX11_isItAt_19 rfl (lv_at hl 2 rfl) ?_
      refine lv_icmp_ne (tgt := 27) C.1 C.2.1 dX11_isItAt_20 rfl (fun c3 => ?_) (fun c3 => ?_)
      · have hf := (if_neg c3).symm.trans hf
        refine lv_iconst C.1 C.2.1 dX11_isItAt_27 ic_0 ?_
        cases hf
        exact m_zret C hW rfl dX11_isItAt_28
      · have hf := (if_pos c3).symm.trans hf
        refine lv_iconst C.1 C.2.1 dX11_isItAt_23 ic_1 ?_
        refine lv_goto (tgt := 28) C.1 C.2.1 dX11_isItAt_24 rfl ?_
        cases hf
        exact m_zret C hW rfl dX11_isItAt_28

def fX11_worthOf_40 (K4 : Nat → Int32 → Int32 → Int32 → MS → Option Int32) (x0 : Nat) (x1 : Int32) (x3 : Int32) (y0 : Int32) (y1 : Int32) (S : MS) : Option Int32 := K4 x0 x1 (y0 + y1) (x3 + (1 : Int32)) S
def fX11_worthOf_4  : Nat → Nat → Int32 → Int32 → Int32 → MS → Option Int32
  | 0, _, _, _, _, _ => none
  | n + 1, x0, x1, x2, x3, S => (if bnd (8 : Int32) (lnM (gR S x0 3)) = true then (if (gI S (gR S x0 3) (8 : Int32).toNatClampNeg) ≤ x3 then some x2 else (if bnd x1 (lnM (gR S x0 51)) = true then (if ((gI S (gR S x0 51) x1.toNatClampNeg) >>> (x3 &&& 31)) &&& (1 : Int32) = (1 : Int32) then (if bnd x3 (lnM (gR S x0 18)) = true then fX11_worthOf_40 (fX11_worthOf_4  n) x0 x1 x3 x2 (gI S (gR S x0 18) x3.toNatClampNeg) S else none) else fX11_worthOf_40 (fX11_worthOf_4  n) x0 x1 x3 x2 (0 : Int32) S) else none)) else none)
def fX11_worthOf (a0 : Nat) (a1 : Int32) (S : MS) : Option Int32 := fX11_worthOf_4  1000 a0 a1 (0 : Int32) (0 : Int32) S
set_option maxRecDepth 100000 in
theorem kX11_worthOf_40 {p : Program} {l : Launch} {e : Env} {s : State} {m : MethodId} {av : Array Value} {below : List Frame} {meth : Method} {c : Code} {A : Nat → Prop} {G : Gv} {L : List Nat} {S : MS} {q : Int32} {K4 : Nat → Int32 → Int32 → Int32 → MS → Option Int32} (hK4 : ∀ (x0 : Nat) (x1 : Int32) (x2 : Int32) (x3 : Int32) (H : Heap) (locs : List Loc) (ls : Array Slot), (x0 < shM.1 ∧ shM.2.1 x0 = 11) → mW G shM L S A s H locs → lv_has ls 4 [(0, .ref (ad L x0)), (1, .int x1), (2, .int x2), (3, .int x3)] → K4 x0 x1 x2 x3 S = some q → W p l e (rmd (1)) s m av below meth c H locs 0 0 (MQ below (mQ G shM L S (some (.int q)) A) av s 0 0 A) (F0 m 4 ls [])) (C : mC p s m av meth c cX11_worthOf RX11 4 (some .int)) : ∀ (x0 : Nat) (x1 : Int32) (x3 : Int32) (y0 : Int32) (y1 : Int32) (H : Heap) (locs : List Loc) (ls : Array Slot), (x0 < shM.1 ∧ shM.2.1 x0 = 11) → mW G shM L S A s H locs → lv_has ls 4 [(0, .ref (ad L x0)), (1, .int x1), (3, .int x3)] → fX11_worthOf_40 K4 x0 x1 x3 y0 y1 S = some q → W p l e (rmd (1)) s m av below meth c H locs 0 0 (MQ below (mQ G shM L S (some (.int q)) A) av s 0 0 A) (F0 m 40 ls [.int y1, .int y0]) := by
  intro x0 x1 x3 y0 y1 H locs ls hx0 hW hl hf
  unfold fX11_worthOf_40 at hf
  refine lv_iadd C.1 C.2.1 dX11_worthOf_40 ?_
  refine lv_istore_n (lv' := [(2, .int (y0 + y1)), (0, .ref (ad L x0)), (1, .int x1), (3, .int x3)]) C.1 C.2.1 dX11_worthOf_41 rfl hl (by decide) rfl (fun ls hl => ?_)
  refine lv_iinc (v := x3 + (1 : Int32)) (lv' := [(3, .int (x3 + (1 : Int32))), (2, .int (y0 + y1)), (0, .ref (ad L x0)), (1, .int x1)]) C.1 C.2.1 dX11_worthOf_42 hl (k := 3) rfl (congrArg (fun z => x3 + z) ic_1) (by decide) rfl (fun ls hl => ?_)
  refine lv_goto (tgt := 4) C.1 C.2.1 dX11_worthOf_45 rfl ?_
  exact hK4 x0 x1 (y0 + y1) (x3 + (1 : Int32)) _ _ _ hx0 hW (lv_sub hl [2, 3, 1, 0] rfl) hf

set_option maxRecDepth 100000 in
theorem kX11_worthOf_4 {p : Program} {l : Launch} {e : Env} {s : State} {m : MethodId} {av : Array Value} {below : List Frame} {meth : Method} {c : Code} {A : Nat → Prop} {G : Gv} {L : List Nat} {S : MS} {q : Int32}  (C : mC p s m av meth c cX11_worthOf RX11 4 (some .int)) : ∀ (n : Nat) (x0 : Nat) (x1 : Int32) (x2 : Int32) (x3 : Int32) (H : Heap) (locs : List Loc) (ls : Array Slot), (x0 < shM.1 ∧ shM.2.1 x0 = 11) → mW G shM L S A s H locs → lv_has ls 4 [(0, .ref (ad L x0)), (1, .int x1), (2, .int x2), (3, .int x3)] → fX11_worthOf_4  n x0 x1 x2 x3 S = some q → W p l e (rmd (1)) s m av below meth c H locs 0 0 (MQ below (mQ G shM L S (some (.int q)) A) av s 0 0 A) (F0 m 4 ls []) := by
  intro n
  induction n with
  | zero =>
    intro x0 x1 x2 x3 H locs ls hx0 hW hl hf
    rw [fX11_worthOf_4] at hf
    cases hf
  | succ n ih =>
    intro x0 x1 x2 x3 H locs ls hx0 hW hl hf
    rw [fX11_worthOf_4] at hf
    refine lv_iload_n C.1 C.2.1 dX11_worthOf_4 rfl (lv_at hl 3 rfl) ?_
    refine lv_aload_n C.1 C.2.1 dX11_worthOf_5 rfl (lv_at hl 0 rfl) ?_
    refine m_getr C hW hx0 flX11_13 (by decide) dX11_worthOf_6 (fun hk1 => ?_)
    refine lv_bipush C.1 C.2.1 dX11_worthOf_9 bp_8 ?_
    obtain ⟨hb2, hf⟩ := gd hf
    refine m_iald C hW hk1 hb2 dX11_worthOf_11 ?_
    refine lv_icmp_ge (tgt := 48) C.1 C.2.1 dX11_worthOf_12 rfl (fun c3 => ?_) (fun c3 => ?_)
    · have hf := (if_pos c3).symm.trans hf
      refine lv_iload_n C.1 C.2.1 dX11_worthOf_48 rfl (lv_at hl 2 rfl) ?_
      cases hf
      exact m_iret C hW dX11_worthOf_49
    · have hf := (if_neg c3).symm.trans hf
      refine lv_iload_n C.1 C.2.1 dX11_worthOf_15 rfl (lv_at hl 2 rfl) ?_
      refine lv_aload_n C.1 C.2.1 dX11_worthOf_16 rfl (lv_at hl 0 rfl) ?_
      refine m_getr C hW hx0 flX11_117 (by decide) dX11_worthOf_17 (fun hk4 => ?_)
      refine lv_iload_n C.1 C.2.1 dX11_worthOf_20 rfl (lv_at hl 1 rfl) ?_
      obtain ⟨hb5, hf⟩ := gd hf
      refine m_iald C hW hk4 hb5 dX11_worthOf_21 ?_
      refine lv_iload_n C.1 C.2.1 dX11_worthOf_22 rfl (lv_at hl 3 rfl) ?_
      refine lv_ishr C.1 C.2.1 dX11_worthOf_23 ?_
      refine lv_iconst C.1 C.2.1 dX11_worthOf_24 ic_1 ?_
      refine lv_iand C.1 C.2.1 dX11_worthOf_25 ?_
      refine lv_iconst C.1 C.2.1 dX11_worthOf_26 ic_1 ?_
      refine lv_icmp_ne (tgt := 39) C.1 C.2.1 dX11_worthOf_27 rfl (fun c6 => ?_) (fun c6 => ?_)
      · have hf := (if_neg c6).symm.trans hf
        refine lv_iconst C.1 C.2.1 dX11_worthOf_39 ic_0 ?_
        exact kX11_worthOf_40 ih C x0 x1 x3 x2 (0 : Int32) _ _ _ hx0 hW (lv_sub hl [0, 1, 3] rfl) hf
      · have hf := (if_pos c6).symm.trans hf
        refine lv_aload_n C.1 C.2.1 dX11_worthOf_30 rfl (lv_at hl 0 rfl) ?_
        refine m_getr C hW hx0 flX11_58 (by decide) dX11_worthOf_31 (fun hk7 => ?_)
        refine lv_iload_n C.1 C.2.1 dX11_worthOf_34 rfl (lv_at hl 3 rfl) ?_
        obtain ⟨hb8, hf⟩ := gd hf
        refine m_iald C hW hk7 hb8 dX11_worthOf_35 ?_
        refine lv_goto (tgt := 40) C.1 C.2.1 dX11_worthOf_36 rfl ?_
        exact kX11_worthOf_40 ih C x0 x1 x3 x2 (gI S (gR S x0 18) x3.toNatClampNeg) _ _ _ hx0 hW (lv_sub hl [0, 1, 3] rfl) hf

set_option maxRecDepth 100000 in
theorem cX11_worthOf_ok {l : Launch} {G : Gv} {L : List Nat} {S : MS} {a0 : Nat} {a1 : Int32} {q : Int32} (ha0 : a0 < shM.1 ∧ shM.2.1 a0 = 11) (hf : fX11_worthOf a0 a1 S = some q) : Mt l yX11_worthOf cX11_worthOf 4 (some .int) (1) G shM L S [.ref (ad L a0), .int a1] (some (.int q)) S := by
  refine m_enter (lv := [(0, .ref (ad L a0)), (1, .int a1)]) (plainFor_of_name (by decide)) (Nat.le_of_ble_eq_true rfl) rfl ?_
  intro p e s m below meth c A ls C hW hl
  unfold fX11_worthOf at hf
  refine lv_iconst C.1 C.2.1 dX11_worthOf_0 ic_0 ?_
  refine lv_istore_n (lv' := [(2, .int (0 : Int32)), (0, .ref (ad L a0)), (1, .int a1)]) C.1 C.2.1 dX11_worthOf_1 rfl hl (by decide) rfl (fun ls hl => ?_)
  refine lv_iconst C.1 C.2.1 dX11_worthOf_2 ic_0 ?_
  refine lv_istore_n (lv' := [(3, .int (0 : Int32)), (2, .int (0 : Int32)), (0, .ref (ad L a0)), (1, .int a1)]) C.1 C.2.1 dX11_worthOf_3 rfl hl (by decide) rfl (fun ls hl => ?_)
  exact kX11_worthOf_4  C 1000 a0 a1 (0 : Int32) (0 : Int32) _ _ _ ha0 hW (lv_sub hl [2, 3, 1, 0] rfl) hf

def fX11_fondAll_4  : Nat → Nat → Int32 → Int32 → Int32 → MS → Option Int32
  | 0, _, _, _, _, _ => none
  | n + 1, x0, x1, x2, x3, S => (if bnd (9 : Int32) (lnM (gR S x0 3)) = true then (if (gI S (gR S x0 3) (9 : Int32).toNatClampNeg) ≤ x3 then some x2 else (if bnd (((4 : Int32) * x1) + x3) (lnM (gR S x0 54)) = true then (fX11_fondAll_4  n) x0 x1 (x2 + (gI S (gR S x0 54) (((4 : Int32) * x1) + x3).toNatClampNeg)) (x3 + (1 : Int32)) S else none)) else none)
def fX11_fondAll (a0 : Nat) (a1 : Int32) (S : MS) : Option Int32 := fX11_fondAll_4  1000 a0 a1 (0 : Int32) (0 : Int32) S
set_option maxRecDepth 100000 in
theorem kX11_fondAll_4 {p : Program} {l : Launch} {e : Env} {s : State} {m : MethodId} {av : Array Value} {below : List Frame} {meth : Method} {c : Code} {A : Nat → Prop} {G : Gv} {L : List Nat} {S : MS} {q : Int32}  (C : mC p s m av meth c cX11_fondAll RX11 4 (some .int)) : ∀ (n : Nat) (x0 : Nat) (x1 : Int32) (x2 : Int32) (x3 : Int32) (H : Heap) (locs : List Loc) (ls : Array Slot), (x0 < shM.1 ∧ shM.2.1 x0 = 11) → mW G shM L S A s H locs → lv_has ls 4 [(0, .ref (ad L x0)), (1, .int x1), (2, .int x2), (3, .int x3)] → fX11_fondAll_4  n x0 x1 x2 x3 S = some q → W p l e (rmd (1)) s m av below meth c H locs 0 0 (MQ below (mQ G shM L S (some (.int q)) A) av s 0 0 A) (F0 m 4 ls []) := by
  intro n
  induction n with
  | zero =>
    intro x0 x1 x2 x3 H locs ls hx0 hW hl hf
    rw [fX11_fondAll_4] at hf
    cases hf
  | succ n ih =>
    intro x0 x1 x2 x3 H locs ls hx0 hW hl hf
    rw [fX11_fondAll_4] at hf
    refine lv_iload_n C.1 C.2.1 dX11_fondAll_4 rfl (lv_at hl 3 rfl) ?_
    refine lv_aload_n C.1 C.2.1 dX11_fondAll_5 rfl (lv_at hl 0 rfl) ?_
    refine m_getr C hW hx0 flX11_13 (by decide) dX11_fondAll_6 (fun hk1 => ?_)
    refine lv_bipush C.1 C.2.1 dX11_fondAll_9 bp_9 ?_
    obtain ⟨hb2, hf⟩ := gd hf
    refine m_iald C hW hk1 hb2 dX11_fondAll_11 ?_
    refine lv_icmp_ge (tgt := 34) C.1 C.2.1 dX11_fondAll_12 rfl (fun c3 => ?_) (fun c3 => ?_)
    · have hf := (if_pos c3).symm.trans hf
      refine lv_iload_n C.1 C.2.1 dX11_fondAll_34 rfl (lv_at hl 2 rfl) ?_
      cases hf
      exact m_iret C hW dX11_fondAll_35
    · have hf := (if_neg c3).symm.trans hf
      refine lv_iload_n C.1 C.2.1 dX11_fondAll_15 rfl (lv_at hl 2 rfl) ?_
      refine lv_aload_n C.1 C.2.1 dX11_fondAll_16 rfl (lv_at hl 0 rfl) ?_
      refine m_getr C hW hx0 flX11_126 (by decide) dX11_fondAll_17 (fun hk4 => ?_)
      refine lv_iconst C.1 C.2.1 dX11_fondAll_20 ic_4 ?_
      refine lv_iload_n C.1 C.2.1 dX11_fondAll_21 rfl (lv_at hl 1 rfl) ?_
      refine lv_imul C.1 C.2.1 dX11_fondAll_22 ?_
      refine lv_iload_n C.1 C.2.1 dX11_fondAll_23 rfl (lv_at hl 3 rfl) ?_
      refine lv_iadd C.1 C.2.1 dX11_fondAll_24 ?_
      obtain ⟨hb5, hf⟩ := gd hf
      refine m_iald C hW hk4 hb5 dX11_fondAll_25 ?_
      refine lv_iadd C.1 C.2.1 dX11_fondAll_26 ?_
      refine lv_istore_n (lv' := [(2, .int (x2 + (gI S (gR S x0 54) (((4 : Int32) * x1) + x3).toNatClampNeg))), (0, .ref (ad L x0)), (1, .int x1), (3, .int x3)]) C.1 C.2.1 dX11_fondAll_27 rfl hl (by decide) rfl (fun ls hl => ?_)
      refine lv_iinc (v := x3 + (1 : Int32)) (lv' := [(3, .int (x3 + (1 : Int32))), (2, .int (x2 + (gI S (gR S x0 54) (((4 : Int32) * x1) + x3).toNatClampNeg))), (0, .ref (ad L x0)), (1, .int x1)]) C.1 C.2.1 dX11_fondAll_28 hl (k := 3) rfl (congrArg (fun z => x3 + z) ic_1) (by decide) rfl (fun ls hl => ?_)
      refine lv_goto (tgt := 4) C.1 C.2.1 dX11_fondAll_31 rfl ?_
      exact ih x0 x1 (x2 + (gI S (gR S x0 54) (((4 : Int32) * x1) + x3).toNatClampNeg)) (x3 + (1 : Int32)) _ _ _ hx0 hW (lv_sub hl [2, 3, 1, 0] rfl) hf

set_option maxRecDepth 100000 in
theorem cX11_fondAll_ok {l : Launch} {G : Gv} {L : List Nat} {S : MS} {a0 : Nat} {a1 : Int32} {q : Int32} (ha0 : a0 < shM.1 ∧ shM.2.1 a0 = 11) (hf : fX11_fondAll a0 a1 S = some q) : Mt l yX11_fondAll cX11_fondAll 4 (some .int) (1) G shM L S [.ref (ad L a0), .int a1] (some (.int q)) S := by
  refine m_enter (lv := [(0, .ref (ad L a0)), (1, .int a1)]) (plainFor_of_name (by decide)) (Nat.le_of_ble_eq_true rfl) rfl ?_
  intro p e s m below meth c A ls C hW hl
  unfold fX11_fondAll at hf
  refine lv_iconst C.1 C.2.1 dX11_fondAll_0 ic_0 ?_
  refine lv_istore_n (lv' := [(2, .int (0 : Int32)), (0, .ref (ad L a0)), (1, .int a1)]) C.1 C.2.1 dX11_fondAll_1 rfl hl (by decide) rfl (fun ls hl => ?_)
  refine lv_iconst C.1 C.2.1 dX11_fondAll_2 ic_0 ?_
  refine lv_istore_n (lv' := [(3, .int (0 : Int32)), (2, .int (0 : Int32)), (0, .ref (ad L a0)), (1, .int a1)]) C.1 C.2.1 dX11_fondAll_3 rfl hl (by decide) rfl (fun ls hl => ?_)
  exact kX11_fondAll_4  C 1000 a0 a1 (0 : Int32) (0 : Int32) _ _ _ ha0 hW (lv_sub hl [2, 3, 1, 0] rfl) hf

def fX11_engagedTo (a0 : Nat) (a1 : Int32) (S : MS) : Option Int32 := (if bnd a1 (lnM (gR S a0 52)) = true then (if bnd a1 (lnM (gR S a0 53)) = true then (if (gI S (gR S a0 52) a1.toNatClampNeg) ≤ (gI S (gR S a0 53) a1.toNatClampNeg) then (if bnd a1 (lnM (gR S a0 52)) = true then (if bnd a1 (lnM (gR S a0 53)) = true then (if (gI S (gR S a0 53) a1.toNatClampNeg) ≤ (gI S (gR S a0 52) a1.toNatClampNeg) then some (-2 : Int32) else some (1 : Int32)) else none) else none) else some (0 : Int32)) else none) else none)
set_option maxRecDepth 100000 in
theorem cX11_engagedTo_ok {l : Launch} {G : Gv} {L : List Nat} {S : MS} {a0 : Nat} {a1 : Int32} {q : Int32} (ha0 : a0 < shM.1 ∧ shM.2.1 a0 = 11) (hf : fX11_engagedTo a0 a1 S = some q) : Mt l yX11_engagedTo cX11_engagedTo 2 (some .int) (1) G shM L S [.ref (ad L a0), .int a1] (some (.int q)) S := by
  refine m_enter (lv := [(0, .ref (ad L a0)), (1, .int a1)]) (plainFor_of_name (by decide)) (Nat.le_of_ble_eq_true rfl) rfl ?_
  intro p e s m below meth c A ls C hW hl
  unfold fX11_engagedTo at hf
  refine lv_aload_n C.1 C.2.1 dX11_engagedTo_0 rfl (lv_at hl 0 rfl) ?_
  refine m_getr C hW ha0 flX11_120 (by decide) dX11_engagedTo_1 (fun hk1 => ?_)
  refine lv_iload_n C.1 C.2.1 dX11_engagedTo_4 rfl (lv_at hl 1 rfl) ?_
  obtain ⟨hb2, hf⟩ := gd hf
  refine m_iald C hW hk1 hb2 dX11_engagedTo_5 ?_
  refine lv_aload_n C.1 C.2.1 dX11_engagedTo_6 rfl (lv_at hl 0 rfl) ?_
  refine m_getr C hW ha0 flX11_123 (by decide) dX11_engagedTo_7 (fun hk3 => ?_)
  refine lv_iload_n C.1 C.2.1 dX11_engagedTo_10 rfl (lv_at hl 1 rfl) ?_
  obtain ⟨hb4, hf⟩ := gd hf
  refine m_iald C hW hk3 hb4 dX11_engagedTo_11 ?_
  refine lv_icmp_le (tgt := 19) C.1 C.2.1 dX11_engagedTo_12 rfl (fun c5 => ?_) (fun c5 => ?_)
  · have hf := (if_pos c5).symm.trans hf
    refine lv_aload_n C.1 C.2.1 dX11_engagedTo_19 rfl (lv_at hl 0 rfl) ?_
    refine m_getr C hW ha0 flX11_120 (by decide) dX11_engagedTo_20 (fun hk6 => ?_)
    refine lv_iload_n C.1 C.2.1 dX11_engagedTo_23 rfl (lv_at hl 1 rfl) ?_
    obtain ⟨hb7, hf⟩ := gd hf
    refine m_iald C hW hk6 hb7 dX11_engagedTo_24 ?_
    refine lv_aload_n C.1 C.2.1 dX11_engagedTo_25 rfl (lv_at hl 0 rfl) ?_
    refine m_getr C hW ha0 flX11_123 (by decide) dX11_engagedTo_26 (fun hk8 => ?_)
    refine lv_iload_n C.1 C.2.1 dX11_engagedTo_29 rfl (lv_at hl 1 rfl) ?_
    obtain ⟨hb9, hf⟩ := gd hf
    refine m_iald C hW hk8 hb9 dX11_engagedTo_30 ?_
    refine lv_icmp_ge (tgt := 38) C.1 C.2.1 dX11_engagedTo_31 rfl (fun c10 => ?_) (fun c10 => ?_)
    · have hf := (if_pos c10).symm.trans hf
      refine lv_bipush C.1 C.2.1 dX11_engagedTo_38 bp_m2 ?_
      cases hf
      exact m_iret C hW dX11_engagedTo_40
    · have hf := (if_neg c10).symm.trans hf
      refine lv_iconst C.1 C.2.1 dX11_engagedTo_34 ic_1 ?_
      refine lv_goto (tgt := 40) C.1 C.2.1 dX11_engagedTo_35 rfl ?_
      cases hf
      exact m_iret C hW dX11_engagedTo_40
  · have hf := (if_neg c5).symm.trans hf
    refine lv_iconst C.1 C.2.1 dX11_engagedTo_15 ic_0 ?_
    refine lv_goto (tgt := 40) C.1 C.2.1 dX11_engagedTo_16 rfl ?_
    cases hf
    exact m_iret C hW dX11_engagedTo_40

def fX11_hasOf_19  (x0 : Nat) (x1 : Int32) (x2 : Int32) (x3 : Int32) (x4 : Int32) (y0 : Int32) (S : MS) : Option Int32 := (if x3 = x4 then (if bnd x1 (lnM (gR S x0 54)) = true then (if bnd x2 (lnM (gR S x0 54)) = true then (if (gI S (gR S x0 54) x1.toNatClampNeg) ≤ (gI S (gR S x0 54) x2.toNatClampNeg) then some ((y0 / (2 : Int32)) + (0 : Int32)) else some ((y0 / (2 : Int32)) + (1 : Int32))) else none) else none) else some y0)
def fX11_hasOf (a0 : Nat) (a1 : Int32) (a2 : Int32) (a3 : Int32) (a4 : Int32) (S : MS) : Option Int32 := (if a3 = (0 : Int32) then (if bnd a1 (lnM (gR S a0 52)) = true then fX11_hasOf_19  a0 a1 a2 a3 a4 (gI S (gR S a0 52) a1.toNatClampNeg) S else none) else (if bnd a1 (lnM (gR S a0 53)) = true then fX11_hasOf_19  a0 a1 a2 a3 a4 (gI S (gR S a0 53) a1.toNatClampNeg) S else none))
set_option maxRecDepth 100000 in
theorem kX11_hasOf_19 {p : Program} {l : Launch} {e : Env} {s : State} {m : MethodId} {av : Array Value} {below : List Frame} {meth : Method} {c : Code} {A : Nat → Prop} {G : Gv} {L : List Nat} {S : MS} {q : Int32}  (C : mC p s m av meth c cX11_hasOf RX11 6 (some .int)) : ∀ (x0 : Nat) (x1 : Int32) (x2 : Int32) (x3 : Int32) (x4 : Int32) (y0 : Int32) (H : Heap) (locs : List Loc) (ls : Array Slot), (x0 < shM.1 ∧ shM.2.1 x0 = 11) → mW G shM L S A s H locs → lv_has ls 6 [(0, .ref (ad L x0)), (1, .int x1), (2, .int x2), (3, .int x3), (4, .int x4)] → fX11_hasOf_19  x0 x1 x2 x3 x4 y0 S = some q → W p l e (rmd (1)) s m av below meth c H locs 0 0 (MQ below (mQ G shM L S (some (.int q)) A) av s 0 0 A) (F0 m 19 ls [.int y0]) := by
  intro x0 x1 x2 x3 x4 y0 H locs ls hx0 hW hl hf
  unfold fX11_hasOf_19 at hf
  refine lv_istore (lv' := [(5, .int y0), (0, .ref (ad L x0)), (1, .int x1), (2, .int x2), (3, .int x3), (4, .int x4)]) C.1 C.2.1 dX11_hasOf_19 hl (by decide) rfl (fun ls hl => ?_)
  refine lv_iload_n C.1 C.2.1 dX11_hasOf_21 rfl (lv_at hl 4 rfl) ?_
  refine lv_iload C.1 C.2.1 dX11_hasOf_22 (lv_at hl 5 rfl) ?_
  refine lv_icmp_eq (tgt := 32) C.1 C.2.1 dX11_hasOf_24 rfl (fun c1 => ?_) (fun c1 => ?_)
  · have hf := (if_pos c1).symm.trans hf
    refine lv_iload C.1 C.2.1 dX11_hasOf_32 (lv_at hl 0 rfl) ?_
    refine lv_iconst C.1 C.2.1 dX11_hasOf_34 ic_2 ?_
    refine lv_idiv C.1 C.2.1 dX11_hasOf_35 (by decide) ?_
    refine lv_aload_n C.1 C.2.1 dX11_hasOf_36 rfl (lv_at hl 1 rfl) ?_
    refine m_getr C hW hx0 flX11_126 (by decide) dX11_hasOf_37 (fun hk2 => ?_)
    refine lv_iload_n C.1 C.2.1 dX11_hasOf_40 rfl (lv_at hl 2 rfl) ?_
    obtain ⟨hb3, hf⟩ := gd hf
    refine m_iald C hW hk2 hb3 dX11_hasOf_41 ?_
    refine lv_aload_n C.1 C.2.1 dX11_hasOf_42 rfl (lv_at hl 1 rfl) ?_
    refine m_getr C hW hx0 flX11_126 (by decide) dX11_hasOf_43 (fun hk4 => ?_)
    refine lv_iload_n C.1 C.2.1 dX11_hasOf_46 rfl (lv_at hl 3 rfl) ?_
    obtain ⟨hb5, hf⟩ := gd hf
    refine m_iald C hW hk4 hb5 dX11_hasOf_47 ?_
    refine lv_icmp_le (tgt := 55) C.1 C.2.1 dX11_hasOf_48 rfl (fun c6 => ?_) (fun c6 => ?_)
    · have hf := (if_pos c6).symm.trans hf
      refine lv_iconst C.1 C.2.1 dX11_hasOf_55 ic_0 ?_
      refine lv_iadd C.1 C.2.1 dX11_hasOf_56 ?_
      cases hf
      exact m_iret C hW dX11_hasOf_57
    · have hf := (if_neg c6).symm.trans hf
      refine lv_iconst C.1 C.2.1 dX11_hasOf_51 ic_1 ?_
      refine lv_goto (tgt := 56) C.1 C.2.1 dX11_hasOf_52 rfl ?_
      refine lv_iadd C.1 C.2.1 dX11_hasOf_56 ?_
      cases hf
      exact m_iret C hW dX11_hasOf_57
  · have hf := (if_neg c1).symm.trans hf
    refine lv_iload C.1 C.2.1 dX11_hasOf_27 (lv_at hl 0 rfl) ?_
    refine lv_goto (tgt := 57) C.1 C.2.1 dX11_hasOf_29 rfl ?_
    cases hf
    exact m_iret C hW dX11_hasOf_57

set_option maxRecDepth 100000 in
theorem cX11_hasOf_ok {l : Launch} {G : Gv} {L : List Nat} {S : MS} {a0 : Nat} {a1 : Int32} {a2 : Int32} {a3 : Int32} {a4 : Int32} {q : Int32} (ha0 : a0 < shM.1 ∧ shM.2.1 a0 = 11) (hf : fX11_hasOf a0 a1 a2 a3 a4 S = some q) : Mt l yX11_hasOf cX11_hasOf 6 (some .int) (1) G shM L S [.ref (ad L a0), .int a1, .int a2, .int a3, .int a4] (some (.int q)) S := by
  refine m_enter (lv := [(0, .ref (ad L a0)), (1, .int a1), (2, .int a2), (3, .int a3), (4, .int a4)]) (plainFor_of_name (by decide)) (Nat.le_of_ble_eq_true rfl) rfl ?_
  intro p e s m below meth c A ls C hW hl
  unfold fX11_hasOf at hf
  refine lv_iload_n C.1 C.2.1 dX11_hasOf_0 rfl (lv_at hl 3 rfl) ?_
  refine lv_if_ne (tgt := 13) C.1 C.2.1 dX11_hasOf_1 rfl (fun c7 => ?_) (fun c7 => ?_)
  · have hf := (if_neg c7).symm.trans hf
    refine lv_aload_n C.1 C.2.1 dX11_hasOf_13 rfl (lv_at hl 0 rfl) ?_
    refine m_getr C hW ha0 flX11_123 (by decide) dX11_hasOf_14 (fun hk8 => ?_)
    refine lv_iload_n C.1 C.2.1 dX11_hasOf_17 rfl (lv_at hl 1 rfl) ?_
    obtain ⟨hb9, hf⟩ := gd hf
    refine m_iald C hW hk8 hb9 dX11_hasOf_18 ?_
    exact kX11_hasOf_19  C a0 a1 a2 a3 a4 (gI S (gR S a0 53) a1.toNatClampNeg) _ _ _ ha0 hW (lv_sub hl [0, 1, 2, 3, 4] rfl) hf
  · have hf := (if_pos c7).symm.trans hf
    refine lv_aload_n C.1 C.2.1 dX11_hasOf_4 rfl (lv_at hl 0 rfl) ?_
    refine m_getr C hW ha0 flX11_120 (by decide) dX11_hasOf_5 (fun hk10 => ?_)
    refine lv_iload_n C.1 C.2.1 dX11_hasOf_8 rfl (lv_at hl 1 rfl) ?_
    obtain ⟨hb11, hf⟩ := gd hf
    refine m_iald C hW hk10 hb11 dX11_hasOf_9 ?_
    refine lv_goto (tgt := 19) C.1 C.2.1 dX11_hasOf_10 rfl ?_
    exact kX11_hasOf_19  C a0 a1 a2 a3 a4 (gI S (gR S a0 52) a1.toNatClampNeg) _ _ _ ha0 hW (lv_sub hl [0, 1, 2, 3, 4] rfl) hf

def fX11_common_6  : Nat → Int64 → Int64 → MS → Option Int64
  | 0, _, _, _ => none
  | n + 1, x4, x6, S => (if lg_cmp x6 (0 : Int64) = (0 : Int32) then some x4 else (if x6 = (0 : Int64) then none else (fX11_common_6  n) x6 (x4 - (x4 / x6) * x6) S))
def fX11_common (a0 : Int64) (a2 : Int64) (S : MS) : Option Int64 := fX11_common_6  1000 a0 a2 S
set_option maxRecDepth 100000 in
theorem kX11_common_6 {p : Program} {l : Launch} {e : Env} {s : State} {m : MethodId} {av : Array Value} {below : List Frame} {meth : Method} {c : Code} {A : Nat → Prop} {G : Gv} {L : List Nat} {S : MS} {q : Int64}  (C : mC p s m av meth c cX11_common RX11 10 (some .long)) : ∀ (n : Nat) (x4 : Int64) (x6 : Int64) (H : Heap) (locs : List Loc) (ls : Array Slot), mW G shM L S A s H locs → lv_has ls 10 [(4, .long x4), (6, .long x6)] → fX11_common_6  n x4 x6 S = some q → W p l e (rmd (1)) s m av below meth c H locs 0 0 (MQ below (mQ G shM L S (some (.long q)) A) av s 0 0 A) (F0 m 6 ls []) := by
  intro n
  induction n with
  | zero =>
    intro x4 x6 H locs ls  hW hl hf
    rw [fX11_common_6] at hf
    cases hf
  | succ n ih =>
    intro x4 x6 H locs ls  hW hl hf
    rw [fX11_common_6] at hf
    refine lv_lload C.1 C.2.1 dX11_common_6 (lv_at hl 1 rfl) ?_
    refine lv_lconst C.1 C.2.1 dX11_common_8 lc_0 ?_
    refine W.lcmp C.1 C.2.1 dX11_common_9 ?_
    refine lv_if_eq (tgt := 31) C.1 C.2.1 dX11_common_10 rfl (fun c1 => ?_) (fun c1 => ?_)
    · have hf := (if_pos c1).symm.trans hf
      refine lv_lload C.1 C.2.1 dX11_common_31 (lv_at hl 0 rfl) ?_
      cases hf
      exact m_lret C hW dX11_common_33
    · have hf := (if_neg c1).symm.trans hf
      refine lv_lload C.1 C.2.1 dX11_common_13 (lv_at hl 0 rfl) ?_
      refine lv_lload C.1 C.2.1 dX11_common_15 (lv_at hl 1 rfl) ?_
      obtain ⟨hz2, hf⟩ := nz hf
      refine lv_lrem C.1 C.2.1 dX11_common_17 hz2 ?_
      refine lv_lstore (lv' := [(8, .long (x4 - (x4 / x6) * x6)), (4, .long x4), (6, .long x6)]) C.1 C.2.1 dX11_common_18 hl (by decide) rfl (fun ls hl => ?_)
      refine lv_lload C.1 C.2.1 dX11_common_20 (lv_at hl 2 rfl) ?_
      refine lv_lstore (lv' := [(4, .long x6), (8, .long (x4 - (x4 / x6) * x6)), (6, .long x6)]) C.1 C.2.1 dX11_common_22 hl (by decide) rfl (fun ls hl => ?_)
      refine lv_lload C.1 C.2.1 dX11_common_24 (lv_at hl 1 rfl) ?_
      refine lv_lstore (lv' := [(6, .long (x4 - (x4 / x6) * x6)), (4, .long x6), (8, .long (x4 - (x4 / x6) * x6))]) C.1 C.2.1 dX11_common_26 hl (by decide) rfl (fun ls hl => ?_)
      refine lv_goto (tgt := 6) C.1 C.2.1 dX11_common_28 rfl ?_
      exact ih x6 (x4 - (x4 / x6) * x6) _ _ _  hW (lv_sub hl [1, 0] rfl) hf

set_option maxRecDepth 100000 in
theorem cX11_common_ok {l : Launch} {G : Gv} {L : List Nat} {S : MS} {a0 : Int64} {a2 : Int64} {q : Int64}  (hf : fX11_common a0 a2 S = some q) : Mt l yX11_common cX11_common 10 (some .long) (1) G shM L S [.long a0, .long a2] (some (.long q)) S := by
  refine m_enter (lv := [(0, .long a0), (2, .long a2)]) (plainFor_of_name (by decide)) (Nat.le_of_ble_eq_true rfl) rfl ?_
  intro p e s m below meth c A ls C hW hl
  unfold fX11_common at hf
  refine lv_lload_n C.1 C.2.1 dX11_common_0 rfl (lv_at hl 0 rfl) ?_
  refine lv_lstore (lv' := [(4, .long a0), (0, .long a0), (2, .long a2)]) C.1 C.2.1 dX11_common_1 hl (by decide) rfl (fun ls hl => ?_)
  refine lv_lload_n C.1 C.2.1 dX11_common_3 rfl (lv_at hl 2 rfl) ?_
  refine lv_lstore (lv' := [(6, .long a2), (4, .long a0), (0, .long a0), (2, .long a2)]) C.1 C.2.1 dX11_common_4 hl (by decide) rfl (fun ls hl => ?_)
  exact kX11_common_6  C 1000 a0 a2 _ _ _  hW (lv_sub hl [1, 0] rfl) hf

def fX11_out_48  (x0 : Nat) (S : MS) : Option (Int32 × MS) := some ((gI S x0 66) - (1 : Int32), S)
def fX11_out (a0 : Nat) (a1 : Int32) (S : MS) : Option (Int32 × MS) := (if a1 < (0 : Int32) then some ((-1 : Int32), pI S a0 0 (0 : Int32)) else (if (gI (pI S a0 0 (0 : Int32)) a0 66) ≤ a1 then some ((-1 : Int32), pI S a0 0 (0 : Int32)) else (if gI (pI S a0 0 (0 : Int32)) a0 66 = (24 : Int32) then some ((-1 : Int32), pI S a0 0 (0 : Int32)) else (if bnd (gI (pI S a0 0 (0 : Int32)) a0 66) (lnM (gR (pI S a0 0 (0 : Int32)) a0 72)) = true then fX11_out_48  a0 (pI (pI (pI S a0 0 (0 : Int32)) (gR (pI S a0 0 (0 : Int32)) a0 72) ((gI (pI S a0 0 (0 : Int32)) a0 66).toNatClampNeg) a1) a0 66 ((gI (pI (pI S a0 0 (0 : Int32)) (gR (pI S a0 0 (0 : Int32)) a0 72) ((gI (pI S a0 0 (0 : Int32)) a0 66).toNatClampNeg) a1) a0 66) + (1 : Int32))) else none))))
set_option maxRecDepth 100000 in
theorem kX11_out_48 {p : Program} {l : Launch} {e : Env} {s : State} {m : MethodId} {av : Array Value} {below : List Frame} {meth : Method} {c : Code} {A : Nat → Prop} {G : Gv} {L : List Nat} {q : (Int32 × MS)}  (C : mC p s m av meth c cX11_out RX11 2 (some .int)) : ∀ (x0 : Nat) (S : MS) (H : Heap) (locs : List Loc) (ls : Array Slot), (x0 < shM.1 ∧ shM.2.1 x0 = 11) → mW G shM L S A s H locs → lv_has ls 2 [(0, .ref (ad L x0))] → fX11_out_48  x0 S = some q → W p l e (rmd (1)) s m av below meth c H locs 0 0 (MQ below (mQ G shM L q.2 (some (.int q.1)) A) av s 0 0 A) (F0 m 48 ls []) := by
  intro x0 S H locs ls hx0 hW hl hf
  unfold fX11_out_48 at hf
  refine lv_aload_n C.1 C.2.1 dX11_out_48 rfl (lv_at hl 0 rfl) ?_
  refine m_geti C hW hx0 flX11_328 dX11_out_49 ?_
  refine lv_iconst C.1 C.2.1 dX11_out_52 ic_1 ?_
  refine lv_isub C.1 C.2.1 dX11_out_53 ?_
  cases hf
  exact m_iret C hW dX11_out_54

set_option maxRecDepth 100000 in
theorem cX11_out_ok {l : Launch} {G : Gv} {L : List Nat} {S : MS} {a0 : Nat} {a1 : Int32} {q : (Int32 × MS)} (ha0 : a0 < shM.1 ∧ shM.2.1 a0 = 11) (hf : fX11_out a0 a1 S = some q) : Mt l yX11_out cX11_out 2 (some .int) (1) G shM L S [.ref (ad L a0), .int a1] (some (.int q.1)) q.2 := by
  refine m_enter (lv := [(0, .ref (ad L a0)), (1, .int a1)]) (plainFor_of_name (by decide)) (Nat.le_of_ble_eq_true rfl) rfl ?_
  intro p e s m below meth c A ls C hW hl
  unfold fX11_out at hf
  refine lv_aload_n C.1 C.2.1 dX11_out_0 rfl (lv_at hl 0 rfl) ?_
  refine lv_iconst C.1 C.2.1 dX11_out_1 ic_0 ?_
  refine m_puti C hW ha0 fpX11_163 dX11_out_2 (fun H locs hW => ?_)
  refine lv_iload_n C.1 C.2.1 dX11_out_5 rfl (lv_at hl 1 rfl) ?_
  refine lv_if_lt (tgt := 26) C.1 C.2.1 dX11_out_6 rfl (fun c1 => ?_) (fun c1 => ?_)
  · have hf := (if_pos c1).symm.trans hf
    refine lv_iconst C.1 C.2.1 dX11_out_26 ic_m1 ?_
    cases hf
    exact m_iret C hW dX11_out_27
  · have hf := (if_neg c1).symm.trans hf
    refine lv_iload_n C.1 C.2.1 dX11_out_9 rfl (lv_at hl 1 rfl) ?_
    refine lv_aload_n C.1 C.2.1 dX11_out_10 rfl (lv_at hl 0 rfl) ?_
    refine m_geti C hW ha0 flX11_328 dX11_out_11 ?_
    refine lv_icmp_ge (tgt := 26) C.1 C.2.1 dX11_out_14 rfl (fun c2 => ?_) (fun c2 => ?_)
    · have hf := (if_pos c2).symm.trans hf
      refine lv_iconst C.1 C.2.1 dX11_out_26 ic_m1 ?_
      cases hf
      exact m_iret C hW dX11_out_27
    · have hf := (if_neg c2).symm.trans hf
      refine lv_aload_n C.1 C.2.1 dX11_out_17 rfl (lv_at hl 0 rfl) ?_
      refine m_geti C hW ha0 flX11_328 dX11_out_18 ?_
      refine lv_bipush C.1 C.2.1 dX11_out_21 bp_24 ?_
      refine lv_icmp_ne (tgt := 28) C.1 C.2.1 dX11_out_23 rfl (fun c3 => ?_) (fun c3 => ?_)
      · have hf := (if_neg c3).symm.trans hf
        refine lv_aload_n C.1 C.2.1 dX11_out_28 rfl (lv_at hl 0 rfl) ?_
        refine m_getr C hW ha0 flX11_154 (by decide) dX11_out_29 (fun hk4 => ?_)
        refine lv_aload_n C.1 C.2.1 dX11_out_32 rfl (lv_at hl 0 rfl) ?_
        refine m_geti C hW ha0 flX11_328 dX11_out_33 ?_
        refine lv_iload_n C.1 C.2.1 dX11_out_36 rfl (lv_at hl 1 rfl) ?_
        obtain ⟨hb5, hf⟩ := gd hf
        refine m_iast C hW hk4 hb5 dX11_out_37 (fun H locs hW => ?_)
        refine lv_aload_n C.1 C.2.1 dX11_out_38 rfl (lv_at hl 0 rfl) ?_
        refine lv_dup C.1 C.2.1 dX11_out_39 rfl ?_
        refine m_geti C hW ha0 flX11_328 dX11_out_40 ?_
        refine lv_iconst C.1 C.2.1 dX11_out_43 ic_1 ?_
        refine lv_iadd C.1 C.2.1 dX11_out_44 ?_
        refine m_puti C hW ha0 fpX11_328 dX11_out_45 (fun H locs hW => ?_)
        exact kX11_out_48  C a0 _ _ _ _ ha0 hW (lv_sub hl [0] rfl) hf
      · have hf := (if_pos c3).symm.trans hf
        refine lv_iconst C.1 C.2.1 dX11_out_26 ic_m1 ?_
        cases hf
        exact m_iret C hW dX11_out_27

def fX11_known (a0 : Nat) (a1 : Int32) (S : MS) : Option (Int32 × MS) := (if a1 < (-1 : Int32) then some ((0 : Int32), pI S a0 0 (0 : Int32)) else (if a1 ≤ (gI (pI S a0 0 (0 : Int32)) a0 66) then some ((1 : Int32), pI (pI S a0 0 (0 : Int32)) a0 67 a1) else some ((0 : Int32), pI S a0 0 (0 : Int32))))
set_option maxRecDepth 100000 in
theorem cX11_known_ok {l : Launch} {G : Gv} {L : List Nat} {S : MS} {a0 : Nat} {a1 : Int32} {q : (Int32 × MS)} (ha0 : a0 < shM.1 ∧ shM.2.1 a0 = 11) (hf : fX11_known a0 a1 S = some q) : Mt l yX11_known cX11_known 2 (some .boolean) (1) G shM L S [.ref (ad L a0), .int a1] (some (.int q.1)) q.2 := by
  refine m_enter (lv := [(0, .ref (ad L a0)), (1, .int a1)]) (plainFor_of_name (by decide)) (Nat.le_of_ble_eq_true rfl) rfl ?_
  intro p e s m below meth c A ls C hW hl
  unfold fX11_known at hf
  refine lv_aload_n C.1 C.2.1 dX11_known_0 rfl (lv_at hl 0 rfl) ?_
  refine lv_iconst C.1 C.2.1 dX11_known_1 ic_0 ?_
  refine m_puti C hW ha0 fpX11_163 dX11_known_2 (fun H locs hW => ?_)
  refine lv_iload_n C.1 C.2.1 dX11_known_5 rfl (lv_at hl 1 rfl) ?_
  refine lv_iconst C.1 C.2.1 dX11_known_6 ic_m1 ?_
  refine lv_icmp_lt (tgt := 18) C.1 C.2.1 dX11_known_7 rfl (fun c1 => ?_) (fun c1 => ?_)
  · have hf := (if_pos c1).symm.trans hf
    refine lv_iconst C.1 C.2.1 dX11_known_18 ic_0 ?_
    cases hf
    exact m_zret C hW rfl dX11_known_19
  · have hf := (if_neg c1).symm.trans hf
    refine lv_iload_n C.1 C.2.1 dX11_known_10 rfl (lv_at hl 1 rfl) ?_
    refine lv_aload_n C.1 C.2.1 dX11_known_11 rfl (lv_at hl 0 rfl) ?_
    refine m_geti C hW ha0 flX11_328 dX11_known_12 ?_
    refine lv_icmp_le (tgt := 20) C.1 C.2.1 dX11_known_15 rfl (fun c2 => ?_) (fun c2 => ?_)
    · have hf := (if_pos c2).symm.trans hf
      refine lv_aload_n C.1 C.2.1 dX11_known_20 rfl (lv_at hl 0 rfl) ?_
      refine lv_iload_n C.1 C.2.1 dX11_known_21 rfl (lv_at hl 1 rfl) ?_
      refine m_puti C hW ha0 fpX11_138 dX11_known_22 (fun H locs hW => ?_)
      refine lv_iconst C.1 C.2.1 dX11_known_25 ic_1 ?_
      cases hf
      exact m_zret C hW rfl dX11_known_26
    · have hf := (if_neg c2).symm.trans hf
      refine lv_iconst C.1 C.2.1 dX11_known_18 ic_0 ?_
      cases hf
      exact m_zret C hW rfl dX11_known_19

def fX11_knownMany (a0 : Nat) (S : MS) : Option Int32 := (if gI S a0 67 = (-1 : Int32) then some (gI S a0 66) else some (gI S a0 67))
set_option maxRecDepth 100000 in
theorem cX11_knownMany_ok {l : Launch} {G : Gv} {L : List Nat} {S : MS} {a0 : Nat} {q : Int32} (ha0 : a0 < shM.1 ∧ shM.2.1 a0 = 11) (hf : fX11_knownMany a0 S = some q) : Mt l yX11_knownMany cX11_knownMany 1 (some .int) (1) G shM L S [.ref (ad L a0)] (some (.int q)) S := by
  refine m_enter (lv := [(0, .ref (ad L a0))]) (plainFor_of_name (by decide)) (Nat.le_of_ble_eq_true rfl) rfl ?_
  intro p e s m below meth c A ls C hW hl
  unfold fX11_knownMany at hf
  refine lv_aload_n C.1 C.2.1 dX11_knownMany_0 rfl (lv_at hl 0 rfl) ?_
  refine m_geti C hW ha0 flX11_138 dX11_knownMany_1 ?_
  refine lv_iconst C.1 C.2.1 dX11_knownMany_4 ic_m1 ?_
  refine lv_icmp_ne (tgt := 15) C.1 C.2.1 dX11_knownMany_5 rfl (fun c1 => ?_) (fun c1 => ?_)
  · have hf := (if_neg c1).symm.trans hf
    refine lv_aload_n C.1 C.2.1 dX11_knownMany_15 rfl (lv_at hl 0 rfl) ?_
    refine m_geti C hW ha0 flX11_138 dX11_knownMany_16 ?_
    cases hf
    exact m_iret C hW dX11_knownMany_19
  · have hf := (if_pos c1).symm.trans hf
    refine lv_aload_n C.1 C.2.1 dX11_knownMany_8 rfl (lv_at hl 0 rfl) ?_
    refine m_geti C hW ha0 flX11_328 dX11_knownMany_9 ?_
    refine lv_goto (tgt := 19) C.1 C.2.1 dX11_knownMany_12 rfl ?_
    cases hf
    exact m_iret C hW dX11_knownMany_19

