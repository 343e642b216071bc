def fX11_passes_146  (x0 : Nat) (x1 : Int32) (S : MS) : Option MS := (if bnd x1 (lnM (gR S x0 43)) = true then (if bnd x1 (lnM (gR S x0 43)) = true then some (pI S (gR S x0 43) x1.toNatClampNeg ((gI S (gR S x0 43) x1.toNatClampNeg) + (1 : Int32))) else none) else none)
def fX11_passes_100  : Nat → Nat → Int32 → Int32 → MS → Option MS
  | 0, _, _, _, _ => none
  | n + 1, x0, x1, x4, S => (if bnd (9 : Int32) (lnM (gR S x0 3)) = true then (if (gI S (gR S x0 3) (9 : Int32).toNatClampNeg) ≤ x4 then (if bnd x1 (lnM (gR S x0 43)) = true then (if (gI S (gR S x0 43) x1.toNatClampNeg) - ((gI S (gR S x0 43) x1.toNatClampNeg) / (24 : Int32)) * (24 : Int32) = (23 : Int32) then (if bnd x1 (lnM (gR S x0 48)) = true then fX11_passes_146  x0 x1 (pI S (gR S x0 48) x1.toNatClampNeg (0 : Int32)) else none) else fX11_passes_146  x0 x1 S) else none) else (fX11_meets  x0 x1 x4 S).bind fun q12 => (fX11_passes_100  n) x0 x1 (x4 + (1 : Int32)) q12) else none)
def fX11_passes_90  (x0 : Nat) (x1 : Int32) (y0 : Nat) (y1 : Int32) (y2 : Int32) (y3 : Int32) (S : MS) : Option MS := (if bnd y1 (lnM y0) = true then (fX11_doings  x0 x1 (pI S y0 y1.toNatClampNeg (y2 + y3))).bind fun q15 => fX11_passes_100  1000 x0 x1 (0 : Int32) q15 else none)
def fX11_passes_50 (K10 : Nat → Int32 → Int32 → Int32 → MS → Option MS) (x0 : Nat) (x1 : Int32) (x3 : Int32) (x4 : Int32) (S : MS) : Option MS := K10 x0 x1 x3 (x4 + (1 : Int32)) S
def fX11_passes_10  : Nat → Nat → Int32 → Int32 → Int32 → MS → Option MS
  | 0, _, _, _, _, _ => none
  | n + 1, x0, x1, x3, x4, S => (if bnd (7 : Int32) (lnM (gR S x0 3)) = true then (if (gI S (gR S x0 3) (7 : Int32).toNatClampNeg) ≤ x4 then (if bnd x1 (lnM (gR S x0 43)) = true then (fX11_falls  x0 x1 ((gI S (gR S x0 43) x1.toNatClampNeg) - ((gI S (gR S x0 43) x1.toNatClampNeg) / (24 : Int32)) * (24 : Int32)) x3 S).bind fun q22 => (if bnd x1 (lnM (gR q22 x0 49)) = true then (if gI q22 x0 60 = (0 : Int32) then fX11_passes_90  x0 x1 (gR q22 x0 49) x1 (gI q22 (gR q22 x0 49) x1.toNatClampNeg) (0 : Int32) q22 else fX11_passes_90  x0 x1 (gR q22 x0 49) x1 (gI q22 (gR q22 x0 49) x1.toNatClampNeg) (1 : Int32) q22) else none) else none) else (if bnd x4 (lnM (gR S x0 12)) = true then (if bnd x1 (lnM (gR S x0 43)) = true then (if gI S (gR S x0 12) x4.toNatClampNeg = gI S (gR S x0 43) x1.toNatClampNeg then (if bnd x4 (lnM (gR S x0 13)) = true then (fX11_triesStep  x0 x1 (gI S (gR S x0 13) x4.toNatClampNeg) S).bind fun q34 => fX11_passes_50 (fX11_passes_10  n) x0 x1 x3 x4 q34 else none) else fX11_passes_50 (fX11_passes_10  n) x0 x1 x3 x4 S) else none) else none)) else none)
def fX11_passes (a0 : Nat) (a1 : Int32) (a2 : Int32) (S : MS) : Option MS := (fX11_isCloudy  a0 a1 a2 S).bind fun q36 => fX11_passes_10  1000 a0 a1 q36.1 (0 : Int32) q36.2
set_option maxRecDepth 100000 in
theorem kX11_passes_146 {p : Program} {l : Launch} {e : Env} {s : State} {m : MethodId} {av : Array Value} {below : List Frame} {meth : Method} {c : Code} {A : Nat → Prop} {G : Gv} {L : List Nat} {q : MS}  (C : mC p s m av meth c cX11_passes RX11 5 none) : ∀ (x0 : Nat) (x1 : Int32) (S : MS) (H : Heap) (locs : List Loc) (ls : Array Slot), (x0 < shM.1 ∧ shM.2.1 x0 = 11) → mW G shM L S A s H locs → lv_has ls 5 [(0, .ref (ad L x0)), (1, .int x1)] → fX11_passes_146  x0 x1 S = some q → W p l e (rmd (7)) s m av below meth c H locs 0 0 (MQ below (mQ G shM L q none A) av s 0 0 A) (F0 m 146 ls []) := by
  intro x0 x1 S H locs ls hx0 hW hl hf
  unfold fX11_passes_146 at hf
  refine lv_aload_n C.1 C.2.1 dX11_passes_146 rfl (lv_at hl 0 rfl) ?_
  refine m_getr C hW hx0 flX11_93 (by decide) dX11_passes_147 (fun hk1 => ?_)
  refine lv_iload_n C.1 C.2.1 dX11_passes_150 rfl (lv_at hl 1 rfl) ?_
  refine lv_dup2_11 C.1 C.2.1 dX11_passes_151 rfl rfl ?_
  obtain ⟨hb2, hf⟩ := gd hf
  refine m_iald C hW hk1 hb2 dX11_passes_152 ?_
  refine lv_iconst C.1 C.2.1 dX11_passes_153 ic_1 ?_
  refine lv_iadd C.1 C.2.1 dX11_passes_154 ?_
  obtain ⟨hb3, hf⟩ := gd hf
  refine m_iast C hW hk1 hb3 dX11_passes_155 (fun H locs hW => ?_)
  cases hf
  exact m_vret C hW dX11_passes_156

set_option maxRecDepth 100000 in
theorem kX11_passes_100 {p : Program} {l : Launch} {e : Env} {s : State} {m : MethodId} {av : Array Value} {below : List Frame} {meth : Method} {c : Code} {A : Nat → Prop} {G : Gv} {L : List Nat} {q : MS}  (C : mC p s m av meth c cX11_passes RX11 5 none) : ∀ (n : Nat) (x0 : Nat) (x1 : Int32) (x4 : Int32) (S : MS) (H : Heap) (locs : List Loc) (ls : Array Slot), (x0 < shM.1 ∧ shM.2.1 x0 = 11) → mW G shM L S A s H locs → lv_has ls 5 [(0, .ref (ad L x0)), (1, .int x1), (4, .int x4)] → fX11_passes_100  n x0 x1 x4 S = some q → W p l e (rmd (7)) s m av below meth c H locs 0 0 (MQ below (mQ G shM L q none A) av s 0 0 A) (F0 m 100 ls []) := by
  intro n
  induction n with
  | zero =>
    intro x0 x1 x4 S H locs ls hx0 hW hl hf
    rw [fX11_passes_100] at hf
    cases hf
  | succ n ih =>
    intro x0 x1 x4 S H locs ls hx0 hW hl hf
    rw [fX11_passes_100] at hf
    refine lv_iload C.1 C.2.1 dX11_passes_100 (lv_at hl 2 rfl) ?_
    refine lv_aload_n C.1 C.2.1 dX11_passes_102 rfl (lv_at hl 0 rfl) ?_
    refine m_getr C hW hx0 flX11_13 (by decide) dX11_passes_103 (fun hk4 => ?_)
    refine lv_bipush C.1 C.2.1 dX11_passes_106 bp_9 ?_
    obtain ⟨hb5, hf⟩ := gd hf
    refine m_iald C hW hk4 hb5 dX11_passes_108 ?_
    refine lv_icmp_ge (tgt := 125) C.1 C.2.1 dX11_passes_109 rfl (fun c6 => ?_) (fun c6 => ?_)
    · have hf := (if_pos c6).symm.trans hf
      refine lv_aload_n C.1 C.2.1 dX11_passes_125 rfl (lv_at hl 0 rfl) ?_
      refine m_getr C hW hx0 flX11_93 (by decide) dX11_passes_126 (fun hk7 => ?_)
      refine lv_iload_n C.1 C.2.1 dX11_passes_129 rfl (lv_at hl 1 rfl) ?_
      obtain ⟨hb8, hf⟩ := gd hf
      refine m_iald C hW hk7 hb8 dX11_passes_130 ?_
      refine lv_bipush C.1 C.2.1 dX11_passes_131 bp_24 ?_
      refine lv_irem C.1 C.2.1 dX11_passes_133 (by decide) ?_
      refine lv_bipush C.1 C.2.1 dX11_passes_134 bp_23 ?_
      refine lv_icmp_ne (tgt := 146) C.1 C.2.1 dX11_passes_136 rfl (fun c9 => ?_) (fun c9 => ?_)
      · have hf := (if_neg c9).symm.trans hf
        exact kX11_passes_146  C x0 x1 _ _ _ _ hx0 hW (lv_sub hl [0, 1] rfl) hf
      · have hf := (if_pos c9).symm.trans hf
        refine lv_aload_n C.1 C.2.1 dX11_passes_139 rfl (lv_at hl 0 rfl) ?_
        refine m_getr C hW hx0 flX11_108 (by decide) dX11_passes_140 (fun hk10 => ?_)
        refine lv_iload_n C.1 C.2.1 dX11_passes_143 rfl (lv_at hl 1 rfl) ?_
        refine lv_iconst C.1 C.2.1 dX11_passes_144 ic_0 ?_
        obtain ⟨hb11, hf⟩ := gd hf
        refine m_iast C hW hk10 hb11 dX11_passes_145 (fun H locs hW => ?_)
        exact kX11_passes_146  C x0 x1 _ _ _ _ hx0 hW (lv_sub hl [0, 1] rfl) hf
    · have hf := (if_neg c6).symm.trans hf
      refine lv_aload_n C.1 C.2.1 dX11_passes_112 rfl (lv_at hl 0 rfl) ?_
      refine lv_iload_n C.1 C.2.1 dX11_passes_113 rfl (lv_at hl 1 rfl) ?_
      refine lv_iload C.1 C.2.1 dX11_passes_114 (lv_at hl 2 rfl) ?_
      obtain ⟨q12, h13, hf⟩ := bd hf
      refine m_callV (As := [.int x1, .int x4]) (rest := []) C hW hx0 (cX11_meets_ok  hx0 h13) mlX11_462 (by decide) rfl hl.1 rfl (Nat.le_of_ble_eq_true rfl) (Nat.le_of_ble_eq_true rfl) (Nat.le_of_ble_eq_true rfl) dX11_passes_116 (fun H locs hW => ?_)
      refine lv_iinc (v := x4 + (1 : Int32)) (lv' := [(4, .int (x4 + (1 : Int32))), (0, .ref (ad L x0)), (1, .int x1)]) C.1 C.2.1 dX11_passes_119 hl (k := 2) rfl (congrArg (fun z => x4 + z) ic_1) (by decide) rfl (fun ls hl => ?_)
      refine lv_goto (tgt := 100) C.1 C.2.1 dX11_passes_122 rfl ?_
      exact ih x0 x1 (x4 + (1 : Int32)) _ _ _ _ hx0 hW (lv_sub hl [1, 2, 0] rfl) hf

set_option maxRecDepth 100000 in
theorem kX11_passes_90 {p : Program} {l : Launch} {e : Env} {s : State} {m : MethodId} {av : Array Value} {below : List Frame} {meth : Method} {c : Code} {A : Nat → Prop} {G : Gv} {L : List Nat} {q : MS}  (C : mC p s m av meth c cX11_passes RX11 5 none) : ∀ (x0 : Nat) (x1 : Int32) (y0 : Nat) (y1 : Int32) (y2 : Int32) (y3 : Int32) (S : MS) (H : Heap) (locs : List Loc) (ls : Array Slot), (x0 < shM.1 ∧ shM.2.1 x0 = 11) → (y0 < shM.1 ∧ shM.2.1 y0 = 13) → mW G shM L S A s H locs → lv_has ls 5 [(0, .ref (ad L x0)), (1, .int x1)] → fX11_passes_90  x0 x1 y0 y1 y2 y3 S = some q → W p l e (rmd (7)) s m av below meth c H locs 0 0 (MQ below (mQ G shM L q none A) av s 0 0 A) (F0 m 90 ls [.int y3, .int y2, .int y1, .ref (ad L y0)]) := by
  intro x0 x1 y0 y1 y2 y3 S H locs ls hx0 hy0 hW hl hf
  unfold fX11_passes_90 at hf
  refine lv_iadd C.1 C.2.1 dX11_passes_90 ?_
  obtain ⟨hb14, hf⟩ := gd hf
  refine m_iast C hW hy0 hb14 dX11_passes_91 (fun H locs hW => ?_)
  refine lv_aload_n C.1 C.2.1 dX11_passes_92 rfl (lv_at hl 0 rfl) ?_
  refine lv_iload_n C.1 C.2.1 dX11_passes_93 rfl (lv_at hl 1 rfl) ?_
  obtain ⟨q15, h16, hf⟩ := bd hf
  refine m_callV (As := [.int x1]) (rest := []) C hW hx0 (cX11_doings_ok  hx0 h16) mlX11_459 (by decide) rfl hl.1 rfl (Nat.le_of_ble_eq_true rfl) (Nat.le_of_ble_eq_true rfl) (Nat.le_of_ble_eq_true rfl) dX11_passes_94 (fun H locs hW => ?_)
  refine lv_iconst C.1 C.2.1 dX11_passes_97 ic_0 ?_
  refine lv_istore (lv' := [(4, .int (0 : Int32)), (0, .ref (ad L x0)), (1, .int x1)]) C.1 C.2.1 dX11_passes_98 hl (by decide) rfl (fun ls hl => ?_)
  exact kX11_passes_100  C 1000 x0 x1 (0 : Int32) _ _ _ _ hx0 hW (lv_sub hl [1, 2, 0] rfl) hf

set_option maxRecDepth 100000 in
theorem kX11_passes_50 {p : Program} {l : Launch} {e : Env} {s : State} {m : MethodId} {av : Array Value} {below : List Frame} {meth : Method} {c : Code} {A : Nat → Prop} {G : Gv} {L : List Nat} {q : MS} {K10 : Nat → Int32 → Int32 → Int32 → MS → Option MS} (hK10 : ∀ (x0 : Nat) (x1 : Int32) (x3 : Int32) (x4 : Int32) (S : MS) (H : Heap) (locs : List Loc) (ls : Array Slot), (x0 < shM.1 ∧ shM.2.1 x0 = 11) → mW G shM L S A s H locs → lv_has ls 5 [(0, .ref (ad L x0)), (1, .int x1), (3, .int x3), (4, .int x4)] → K10 x0 x1 x3 x4 S = some q → W p l e (rmd (7)) s m av below meth c H locs 0 0 (MQ below (mQ G shM L q none A) av s 0 0 A) (F0 m 10 ls [])) (C : mC p s m av meth c cX11_passes RX11 5 none) : ∀ (x0 : Nat) (x1 : Int32) (x3 : Int32) (x4 : Int32) (S : MS) (H : Heap) (locs : List Loc) (ls : Array Slot), (x0 < shM.1 ∧ shM.2.1 x0 = 11) → mW G shM L S A s H locs → lv_has ls 5 [(0, .ref (ad L x0)), (1, .int x1), (3, .int x3), (4, .int x4)] → fX11_passes_50 K10 x0 x1 x3 x4 S = some q → W p l e (rmd (7)) s m av below meth c H locs 0 0 (MQ below (mQ G shM L q none A) av s 0 0 A) (F0 m 50 ls []) := by
  intro x0 x1 x3 x4 S H locs ls hx0 hW hl hf
  unfold fX11_passes_50 at hf
  refine lv_iinc (v := x4 + (1 : Int32)) (lv' := [(4, .int (x4 + (1 : Int32))), (0, .ref (ad L x0)), (1, .int x1), (3, .int x3)]) C.1 C.2.1 dX11_passes_50 hl (k := 3) rfl (congrArg (fun z => x4 + z) ic_1) (by decide) rfl (fun ls hl => ?_)
  refine lv_goto (tgt := 10) C.1 C.2.1 dX11_passes_53 rfl ?_
  exact hK10 x0 x1 x3 (x4 + (1 : Int32)) _ _ _ _ hx0 hW (lv_sub hl [1, 2, 3, 0] rfl) hf

set_option maxRecDepth 100000 in
theorem kX11_passes_10 {p : Program} {l : Launch} {e : Env} {s : State} {m : MethodId} {av : Array Value} {below : List Frame} {meth : Method} {c : Code} {A : Nat → Prop} {G : Gv} {L : List Nat} {q : MS}  (C : mC p s m av meth c cX11_passes RX11 5 none) : ∀ (n : Nat) (x0 : Nat) (x1 : Int32) (x3 : Int32) (x4 : Int32) (S : MS) (H : Heap) (locs : List Loc) (ls : Array Slot), (x0 < shM.1 ∧ shM.2.1 x0 = 11) → mW G shM L S A s H locs → lv_has ls 5 [(0, .ref (ad L x0)), (1, .int x1), (3, .int x3), (4, .int x4)] → fX11_passes_10  n x0 x1 x3 x4 S = some q → W p l e (rmd (7)) s m av below meth c H locs 0 0 (MQ below (mQ G shM L q none A) av s 0 0 A) (F0 m 10 ls []) := by
  intro n
  induction n with
  | zero =>
    intro x0 x1 x3 x4 S H locs ls hx0 hW hl hf
    rw [fX11_passes_10] at hf
    cases hf
  | succ n ih =>
    intro x0 x1 x3 x4 S H locs ls hx0 hW hl hf
    rw [fX11_passes_10] at hf
    refine lv_iload C.1 C.2.1 dX11_passes_10 (lv_at hl 3 rfl) ?_
    refine lv_aload_n C.1 C.2.1 dX11_passes_12 rfl (lv_at hl 0 rfl) ?_
    refine m_getr C hW hx0 flX11_13 (by decide) dX11_passes_13 (fun hk17 => ?_)
    refine lv_bipush C.1 C.2.1 dX11_passes_16 bp_7 ?_
    obtain ⟨hb18, hf⟩ := gd hf
    refine m_iald C hW hk17 hb18 dX11_passes_18 ?_
    refine lv_icmp_ge (tgt := 56) C.1 C.2.1 dX11_passes_19 rfl (fun c19 => ?_) (fun c19 => ?_)
    · have hf := (if_pos c19).symm.trans hf
      refine lv_aload_n C.1 C.2.1 dX11_passes_56 rfl (lv_at hl 0 rfl) ?_
      refine lv_iload_n C.1 C.2.1 dX11_passes_57 rfl (lv_at hl 1 rfl) ?_
      refine lv_aload_n C.1 C.2.1 dX11_passes_58 rfl (lv_at hl 0 rfl) ?_
      refine m_getr C hW hx0 flX11_93 (by decide) dX11_passes_59 (fun hk20 => ?_)
      refine lv_iload_n C.1 C.2.1 dX11_passes_62 rfl (lv_at hl 1 rfl) ?_
      obtain ⟨hb21, hf⟩ := gd hf
      refine m_iald C hW hk20 hb21 dX11_passes_63 ?_
      refine lv_bipush C.1 C.2.1 dX11_passes_64 bp_24 ?_
      refine lv_irem C.1 C.2.1 dX11_passes_66 (by decide) ?_
      refine lv_iload_n C.1 C.2.1 dX11_passes_67 rfl (lv_at hl 2 rfl) ?_
      obtain ⟨q22, h23, hf⟩ := bd hf
      refine m_callV (As := [.int x1, .int ((gI S (gR S x0 43) x1.toNatClampNeg) - ((gI S (gR S x0 43) x1.toNatClampNeg) / (24 : Int32)) * (24 : Int32)), .int x3]) (rest := []) C hW hx0 (cX11_falls_ok  hx0 h23) mlX11_455 (by decide) rfl hl.1 rfl (Nat.le_of_ble_eq_true rfl) (Nat.le_of_ble_eq_true rfl) (Nat.le_of_ble_eq_true rfl) dX11_passes_68 (fun H locs hW => ?_)
      refine lv_aload_n C.1 C.2.1 dX11_passes_71 rfl (lv_at hl 0 rfl) ?_
      refine m_getr C hW hx0 flX11_111 (by decide) dX11_passes_72 (fun hk24 => ?_)
      refine lv_iload_n C.1 C.2.1 dX11_passes_75 rfl (lv_at hl 1 rfl) ?_
      refine lv_dup2_11 C.1 C.2.1 dX11_passes_76 rfl rfl ?_
      obtain ⟨hb25, hf⟩ := gd hf
      refine m_iald C hW hk24 hb25 dX11_passes_77 ?_
      refine lv_aload_n C.1 C.2.1 dX11_passes_78 rfl (lv_at hl 0 rfl) ?_
      refine m_geti C hW hx0 flX11_403 dX11_passes_79 ?_
      refine lv_if_eq (tgt := 89) C.1 C.2.1 dX11_passes_82 rfl (fun c26 => ?_) (fun c26 => ?_)
      · have hf := (if_pos c26).symm.trans hf
        refine lv_iconst C.1 C.2.1 dX11_passes_89 ic_0 ?_
        exact kX11_passes_90  C x0 x1 (gR q22 x0 49) x1 (gI q22 (gR q22 x0 49) x1.toNatClampNeg) (0 : Int32) _ _ _ _ hx0 hk24 hW (lv_sub hl [0, 1] rfl) hf
      · have hf := (if_neg c26).symm.trans hf
        refine lv_iconst C.1 C.2.1 dX11_passes_85 ic_1 ?_
        refine lv_goto (tgt := 90) C.1 C.2.1 dX11_passes_86 rfl ?_
        exact kX11_passes_90  C x0 x1 (gR q22 x0 49) x1 (gI q22 (gR q22 x0 49) x1.toNatClampNeg) (1 : Int32) _ _ _ _ hx0 hk24 hW (lv_sub hl [0, 1] rfl) hf
    · have hf := (if_neg c19).symm.trans hf
      refine lv_aload_n C.1 C.2.1 dX11_passes_22 rfl (lv_at hl 0 rfl) ?_
      refine m_getr C hW hx0 flX11_40 (by decide) dX11_passes_23 (fun hk27 => ?_)
      refine lv_iload C.1 C.2.1 dX11_passes_26 (lv_at hl 3 rfl) ?_
      obtain ⟨hb28, hf⟩ := gd hf
      refine m_iald C hW hk27 hb28 dX11_passes_28 ?_
      refine lv_aload_n C.1 C.2.1 dX11_passes_29 rfl (lv_at hl 0 rfl) ?_
      refine m_getr C hW hx0 flX11_93 (by decide) dX11_passes_30 (fun hk29 => ?_)
      refine lv_iload_n C.1 C.2.1 dX11_passes_33 rfl (lv_at hl 1 rfl) ?_
      obtain ⟨hb30, hf⟩ := gd hf
      refine m_iald C hW hk29 hb30 dX11_passes_34 ?_
      refine lv_icmp_ne (tgt := 50) C.1 C.2.1 dX11_passes_35 rfl (fun c31 => ?_) (fun c31 => ?_)
      · have hf := (if_neg c31).symm.trans hf
        exact kX11_passes_50 ih C x0 x1 x3 x4 _ _ _ _ hx0 hW (lv_sub hl [0, 1, 2, 3] rfl) hf
      · have hf := (if_pos c31).symm.trans hf
        refine lv_aload_n C.1 C.2.1 dX11_passes_38 rfl (lv_at hl 0 rfl) ?_
        refine lv_iload_n C.1 C.2.1 dX11_passes_39 rfl (lv_at hl 1 rfl) ?_
        refine lv_aload_n C.1 C.2.1 dX11_passes_40 rfl (lv_at hl 0 rfl) ?_
        refine m_getr C hW hx0 flX11_43 (by decide) dX11_passes_41 (fun hk32 => ?_)
        refine lv_iload C.1 C.2.1 dX11_passes_44 (lv_at hl 3 rfl) ?_
        obtain ⟨hb33, hf⟩ := gd hf
        refine m_iald C hW hk32 hb33 dX11_passes_46 ?_
        obtain ⟨q34, h35, hf⟩ := bd hf
        refine m_callV (As := [.int x1, .int (gI S (gR S x0 13) x4.toNatClampNeg)]) (rest := []) C hW hx0 (cX11_triesStep_ok  hx0 h35) mlX11_452 (by decide) rfl hl.1 rfl (Nat.le_of_ble_eq_true rfl) (Nat.le_of_ble_eq_true rfl) (Nat.le_of_ble_eq_true rfl) dX11_passes_47 (fun H locs hW => ?_)
        exact kX11_passes_50 ih C x0 x1 x3 x4 _ _ _ _ hx0 hW (lv_sub hl [0, 1, 2, 3] rfl) hf

set_option maxRecDepth 100000 in
theorem cX11_passes_ok {l : Launch} {G : Gv} {L : List Nat} {S : MS} {a0 : Nat} {a1 : Int32} {a2 : Int32} {q : MS} (ha0 : a0 < shM.1 ∧ shM.2.1 a0 = 11) (hf : fX11_passes a0 a1 a2 S = some q) : Mt l yX11_passes cX11_passes 5 none (7) G shM L S [.ref (ad L a0), .int a1, .int a2] none q := by
  refine m_enter (lv := [(0, .ref (ad L a0)), (1, .int a1), (2, .int a2)]) (plainFor_of_name (by decide)) (Nat.le_of_ble_eq_true rfl) rfl ?_
  intro p e s m below meth c A ls C hW hl
  unfold fX11_passes at hf
  refine lv_aload_n C.1 C.2.1 dX11_passes_0 rfl (lv_at hl 0 rfl) ?_
  refine lv_iload_n C.1 C.2.1 dX11_passes_1 rfl (lv_at hl 1 rfl) ?_
  refine lv_iload_n C.1 C.2.1 dX11_passes_2 rfl (lv_at hl 2 rfl) ?_
  obtain ⟨q36, h37, hf⟩ := bd hf
  refine m_callV (As := [.int a1, .int a2]) (rest := []) C hW ha0 (cX11_isCloudy_ok  ha0 h37) mlX11_448 (by decide) rfl hl.1 rfl (Nat.le_of_ble_eq_true rfl) (Nat.le_of_ble_eq_true rfl) (Nat.le_of_ble_eq_true rfl) dX11_passes_3 (fun H locs hW => ?_)
  refine lv_istore_n (lv' := [(3, .int q36.1), (0, .ref (ad L a0)), (1, .int a1), (2, .int a2)]) C.1 C.2.1 dX11_passes_6 rfl hl (by decide) rfl (fun ls hl => ?_)
  refine lv_iconst C.1 C.2.1 dX11_passes_7 ic_0 ?_
  refine lv_istore (lv' := [(4, .int (0 : Int32)), (3, .int q36.1), (0, .ref (ad L a0)), (1, .int a1), (2, .int a2)]) C.1 C.2.1 dX11_passes_8 hl (by decide) rfl (fun ls hl => ?_)
  exact kX11_passes_10  C 1000 a0 a1 q36.1 (0 : Int32) _ _ _ _ ha0 hW (lv_sub hl [2, 3, 1, 0] rfl) hf

def fX11_fallsNow (a0 : Nat) (S : MS) : Option MS := (if bnd (0 : Int32) (lnM (gR S a0 43)) = true then (fX11_isCloudy  a0 (0 : Int32) (0 : Int32) S).bind fun q3 => (fX11_falls  a0 (0 : Int32) ((gI S (gR S a0 43) (0 : Int32).toNatClampNeg) - ((gI S (gR S a0 43) (0 : Int32).toNatClampNeg) / (24 : Int32)) * (24 : Int32)) q3.1 q3.2).bind fun q5 => some q5 else none)
set_option maxRecDepth 100000 in
theorem cX11_fallsNow_ok {l : Launch} {G : Gv} {L : List Nat} {S : MS} {a0 : Nat} {q : MS} (ha0 : a0 < shM.1 ∧ shM.2.1 a0 = 11) (hf : fX11_fallsNow a0 S = some q) : Mt l yX11_fallsNow cX11_fallsNow 1 none (7) G shM L S [.ref (ad L a0)] none q := by
  refine m_enter (lv := [(0, .ref (ad L a0))]) (plainFor_of_name (by decide)) (Nat.le_of_ble_eq_true rfl) rfl ?_
  intro p e s m below meth c A ls C hW hl
  unfold fX11_fallsNow at hf
  refine lv_aload_n C.1 C.2.1 dX11_fallsNow_0 rfl (lv_at hl 0 rfl) ?_
  refine lv_iconst C.1 C.2.1 dX11_fallsNow_1 ic_0 ?_
  refine lv_aload_n C.1 C.2.1 dX11_fallsNow_2 rfl (lv_at hl 0 rfl) ?_
  refine m_getr C hW ha0 flX11_93 (by decide) dX11_fallsNow_3 (fun hk1 => ?_)
  refine lv_iconst C.1 C.2.1 dX11_fallsNow_6 ic_0 ?_
  obtain ⟨hb2, hf⟩ := gd hf
  refine m_iald C hW hk1 hb2 dX11_fallsNow_7 ?_
  refine lv_bipush C.1 C.2.1 dX11_fallsNow_8 bp_24 ?_
  refine lv_irem C.1 C.2.1 dX11_fallsNow_10 (by decide) ?_
  refine lv_aload_n C.1 C.2.1 dX11_fallsNow_11 rfl (lv_at hl 0 rfl) ?_
  refine lv_iconst C.1 C.2.1 dX11_fallsNow_12 ic_0 ?_
  refine lv_iconst C.1 C.2.1 dX11_fallsNow_13 ic_0 ?_
  obtain ⟨q3, h4, hf⟩ := bd hf
  refine m_callV (As := [.int (0 : Int32), .int (0 : Int32)]) (rest := [.int ((gI S (gR S a0 43) (0 : Int32).toNatClampNeg) - ((gI S (gR S a0 43) (0 : Int32).toNatClampNeg) / (24 : Int32)) * (24 : Int32)), .int (0 : Int32), .ref (ad L a0)]) C hW ha0 (cX11_isCloudy_ok  ha0 h4) mlX11_448 (by decide) rfl hl.1 rfl (Nat.le_of_ble_eq_true rfl) (Nat.le_of_ble_eq_true rfl) (Nat.le_of_ble_eq_true rfl) dX11_fallsNow_14 (fun H locs hW => ?_)
  obtain ⟨q5, h6, hf⟩ := bd hf
  refine m_callV (As := [.int (0 : Int32), .int ((gI S (gR S a0 43) (0 : Int32).toNatClampNeg) - ((gI S (gR S a0 43) (0 : Int32).toNatClampNeg) / (24 : Int32)) * (24 : Int32)), .int q3.1]) (rest := []) C hW ha0 (cX11_falls_ok  ha0 h6) mlX11_455 (by decide) rfl hl.1 rfl (Nat.le_of_ble_eq_true rfl) (Nat.le_of_ble_eq_true rfl) (Nat.le_of_ble_eq_true rfl) dX11_fallsNow_17 (fun H locs hW => ?_)
  cases hf
  exact m_vret C hW dX11_fallsNow_20

def fX11_cast_130 (K38 : Nat → Int32 → Int32 → Int32 → Int32 → Int32 → MS → Option (Int32 × MS)) (x0 : Nat) (x1 : Int32) (x2 : Int32) (x3 : Int32) (x4 : Int32) (x5 : Int32) (S : MS) : Option (Int32 × MS) := K38 x0 x1 x2 x3 x4 (x5 + (1 : Int32)) S
def fX11_cast_127 (K38 : Nat → Int32 → Int32 → Int32 → Int32 → Int32 → MS → Option (Int32 × MS)) (x0 : Nat) (x1 : Int32) (x2 : Int32) (x3 : Int32) (x5 : Int32) (y0 : Int32) (y1 : Int32) (S : MS) : Option (Int32 × MS) := fX11_cast_130 K38 x0 x1 x2 x3 (y0 + y1) x5 S
def fX11_cast_104 (K38 : Nat → Int32 → Int32 → Int32 → Int32 → Int32 → MS → Option (Int32 × MS)) (x0 : Nat) (x1 : Int32) (x2 : Int32) (x3 : Int32) (x4 : Int32) (x5 : Int32) (S : MS) : Option (Int32 × MS) := (fX11_falls  x0 (1 : Int32) x3 (0 : Int32) S).bind fun q1 => (fX11_isItAt  x0 x1 x2 q1).bind fun q3 => (if q3 = (0 : Int32) then fX11_cast_127 K38 x0 x1 x2 x3 x5 x4 (0 : Int32) q1 else fX11_cast_127 K38 x0 x1 x2 x3 x5 x4 (1 : Int32) q1)
def fX11_cast_38  : Nat → Nat → Int32 → Int32 → Int32 → Int32 → Int32 → MS → Option (Int32 × MS)
  | 0, _, _, _, _, _, _, _ => none
  | n + 1, x0, x1, x2, x3, x4, x5, S => (if (64 : Int32) ≤ x5 then some (x4, S) else (fX11_isCell  x0 (x5 / (8 : Int32)) (x5 - (x5 / (8 : Int32)) * (8 : Int32)) S).bind fun q7 => (if q7 = (0 : Int32) then fX11_cast_130 (fX11_cast_38  n) x0 x1 x2 x3 x4 x5 S else (fX11_isWall  x0 (x5 / (8 : Int32)) (x5 - (x5 / (8 : Int32)) * (8 : Int32)) S).bind fun q10 => (if q10 = (0 : Int32) then (if bnd (1 : Int32) (lnM (gR S x0 46)) = true then (if bnd (1 : Int32) (lnM (gR (pI S (gR S x0 46) ((1 : Int32).toNatClampNeg) (x5 / (8 : Int32))) x0 47)) = true then fX11_cast_104 (fX11_cast_38  n) x0 x1 x2 x3 x4 x5 (pI (pI S (gR S x0 46) ((1 : Int32).toNatClampNeg) (x5 / (8 : Int32))) (gR (pI S (gR S x0 46) ((1 : Int32).toNatClampNeg) (x5 / (8 : Int32))) x0 47) ((1 : Int32).toNatClampNeg) (x5 - (x5 / (8 : Int32)) * (8 : Int32))) else none) else none) else fX11_cast_130 (fX11_cast_38  n) x0 x1 x2 x3 x4 x5 S)))
def fX11_cast (a0 : Nat) (a1 : Int32) (a2 : Int32) (a3 : Int32) (S : MS) : Option (Int32 × MS) := (fX11_isCell  a0 a1 a2 (pI S a0 0 (0 : Int32))).bind fun q17 => (if q17 = (0 : Int32) then some ((-1 : Int32), pI S a0 0 (0 : Int32)) else (if a3 < (0 : Int32) then some ((-1 : Int32), pI S a0 0 (0 : Int32)) else (if a3 < (24 : Int32) then (fX11_copies  a0 (1 : Int32) (0 : Int32) (pI S a0 0 (0 : Int32))).bind fun q22 => fX11_cast_38  1000 a0 a1 a2 a3 (0 : Int32) (0 : Int32) q22 else some ((-1 : Int32), pI S a0 0 (0 : Int32)))))
set_option maxRecDepth 100000 in
theorem kX11_cast_130 {p : Program} {l : Launch} {e : Env} {s : State} {m : MethodId} {av : Array Value} {below : List Frame} {meth : Method} {c : Code} {A : Nat → Prop} {G : Gv} {L : List Nat} {q : (Int32 × MS)} {K38 : Nat → Int32 → Int32 → Int32 → Int32 → Int32 → MS → Option (Int32 × MS)} (hK38 : ∀ (x0 : Nat) (x1 : Int32) (x2 : Int32) (x3 : Int32) (x4 : Int32) (x5 : Int32) (S : MS) (H : Heap) (locs : List Loc) (ls : Array Slot), (x0 < shM.1 ∧ shM.2.1 x0 = 11) → mW G shM L S A s H locs → lv_has ls 6 [(0, .ref (ad L x0)), (1, .int x1), (2, .int x2), (3, .int x3), (4, .int x4), (5, .int x5)] → K38 x0 x1 x2 x3 x4 x5 S = some q → W p l e (rmd (7)) s m av below meth c H locs 0 0 (MQ below (mQ G shM L q.2 (some (.int q.1)) A) av s 0 0 A) (F0 m 38 ls [])) (C : mC p s m av meth c cX11_cast RX11 6 (some .int)) : ∀ (x0 : Nat) (x1 : Int32) (x2 : Int32) (x3 : Int32) (x4 : Int32) (x5 : Int32) (S : MS) (H : Heap) (locs : List Loc) (ls : Array Slot), (x0 < shM.1 ∧ shM.2.1 x0 = 11) → mW G shM L S A s H locs → lv_has ls 6 [(0, .ref (ad L x0)), (1, .int x1), (2, .int x2), (3, .int x3), (4, .int x4), (5, .int x5)] → fX11_cast_130 K38 x0 x1 x2 x3 x4 x5 S = some q → W p l e (rmd (7)) s m av below meth c H locs 0 0 (MQ below (mQ G shM L q.2 (some (.int q.1)) A) av s 0 0 A) (F0 m 130 ls []) := by
  intro x0 x1 x2 x3 x4 x5 S H locs ls hx0 hW hl hf
  unfold fX11_cast_130 at hf
  refine lv_iinc (v := x5 + (1 : Int32)) (lv' := [(5, .int (x5 + (1 : Int32))), (0, .ref (ad L x0)), (1, .int x1), (2, .int x2), (3, .int x3), (4, .int x4)]) C.1 C.2.1 dX11_cast_130 hl (k := 5) rfl (congrArg (fun z => x5 + z) ic_1) (by decide) rfl (fun ls hl => ?_)
  refine lv_goto (tgt := 38) C.1 C.2.1 dX11_cast_133 rfl ?_
  exact hK38 x0 x1 x2 x3 x4 (x5 + (1 : Int32)) _ _ _ _ hx0 hW (lv_sub hl [1, 2, 3, 4, 5, 0] rfl) hf

set_option maxRecDepth 100000 in
theorem kX11_cast_127 {p : Program} {l : Launch} {e : Env} {s : State} {m : MethodId} {av : Array Value} {below : List Frame} {meth : Method} {c : Code} {A : Nat → Prop} {G : Gv} {L : List Nat} {q : (Int32 × MS)} {K38 : Nat → Int32 → Int32 → Int32 → Int32 → Int32 → MS → Option (Int32 × MS)} (hK38 : ∀ (x0 : Nat) (x1 : Int32) (x2 : Int32) (x3 : Int32) (x4 : Int32) (x5 : Int32) (S : MS) (H : Heap) (locs : List Loc) (ls : Array Slot), (x0 < shM.1 ∧ shM.2.1 x0 = 11) → mW G shM L S A s H locs → lv_has ls 6 [(0, .ref (ad L x0)), (1, .int x1), (2, .int x2), (3, .int x3), (4, .int x4), (5, .int x5)] → K38 x0 x1 x2 x3 x4 x5 S = some q → W p l e (rmd (7)) s m av below meth c H locs 0 0 (MQ below (mQ G shM L q.2 (some (.int q.1)) A) av s 0 0 A) (F0 m 38 ls [])) (C : mC p s m av meth c cX11_cast RX11 6 (some .int)) : ∀ (x0 : Nat) (x1 : Int32) (x2 : Int32) (x3 : Int32) (x5 : Int32) (y0 : Int32) (y1 : Int32) (S : MS) (H : Heap) (locs : List Loc) (ls : Array Slot), (x0 < shM.1 ∧ shM.2.1 x0 = 11) → mW G shM L S A s H locs → lv_has ls 6 [(0, .ref (ad L x0)), (1, .int x1), (2, .int x2), (3, .int x3), (5, .int x5)] → fX11_cast_127 K38 x0 x1 x2 x3 x5 y0 y1 S = some q → W p l e (rmd (7)) s m av below meth c H locs 0 0 (MQ below (mQ G shM L q.2 (some (.int q.1)) A) av s 0 0 A) (F0 m 127 ls [.int y1, .int y0]) := by
  intro x0 x1 x2 x3 x5 y0 y1 S H locs ls hx0 hW hl hf
  unfold fX11_cast_127 at hf
  refine lv_iadd C.1 C.2.1 dX11_cast_127 ?_
  refine lv_istore (lv' := [(4, .int (y0 + y1)), (0, .ref (ad L x0)), (1, .int x1), (2, .int x2), (3, .int x3), (5, .int x5)]) C.1 C.2.1 dX11_cast_128 hl (by decide) rfl (fun ls hl => ?_)
  exact kX11_cast_130 hK38 C x0 x1 x2 x3 (y0 + y1) x5 _ _ _ _ hx0 hW (lv_sub hl [1, 2, 3, 4, 0, 5] rfl) hf

set_option maxRecDepth 100000 in
theorem kX11_cast_104 {p : Program} {l : Launch} {e : Env} {s : State} {m : MethodId} {av : Array Value} {below : List Frame} {meth : Method} {c : Code} {A : Nat → Prop} {G : Gv} {L : List Nat} {q : (Int32 × MS)} {K38 : Nat → Int32 → Int32 → Int32 → Int32 → Int32 → MS → Option (Int32 × MS)} (hK38 : ∀ (x0 : Nat) (x1 : Int32) (x2 : Int32) (x3 : Int32) (x4 : Int32) (x5 : Int32) (S : MS) (H : Heap) (locs : List Loc) (ls : Array Slot), (x0 < shM.1 ∧ shM.2.1 x0 = 11) → mW G shM L S A s H locs → lv_has ls 6 [(0, .ref (ad L x0)), (1, .int x1), (2, .int x2), (3, .int x3), (4, .int x4), (5, .int x5)] → K38 x0 x1 x2 x3 x4 x5 S = some q → W p l e (rmd (7)) s m av below meth c H locs 0 0 (MQ below (mQ G shM L q.2 (some (.int q.1)) A) av s 0 0 A) (F0 m 38 ls [])) (C : mC p s m av meth c cX11_cast RX11 6 (some .int)) : ∀ (x0 : Nat) (x1 : Int32) (x2 : Int32) (x3 : Int32) (x4 : Int32) (x5 : Int32) (S : MS) (H : Heap) (locs : List Loc) (ls : Array Slot), (x0 < shM.1 ∧ shM.2.1 x0 = 11) → mW G shM L S A s H locs → lv_has ls 6 [(0, .ref (ad L x0)), (1, .int x1), (2, .int x2), (3, .int x3), (4, .int x4), (5, .int x5)] → fX11_cast_104 K38 x0 x1 x2 x3 x4 x5 S = some q → W p l e (rmd (7)) s m av below meth c H locs 0 0 (MQ below (mQ G shM L q.2 (some (.int q.1)) A) av s 0 0 A) (F0 m 104 ls []) := by
  intro x0 x1 x2 x3 x4 x5 S H locs ls hx0 hW hl hf
  unfold fX11_cast_104 at hf
  refine lv_aload_n C.1 C.2.1 dX11_cast_104 rfl (lv_at hl 0 rfl) ?_
  refine lv_iconst C.1 C.2.1 dX11_cast_105 ic_1 ?_
  refine lv_iload_n C.1 C.2.1 dX11_cast_106 rfl (lv_at hl 3 rfl) ?_
  refine lv_iconst C.1 C.2.1 dX11_cast_107 ic_0 ?_
  obtain ⟨q1, h2, hf⟩ := bd hf
  refine m_callV (As := [.int (1 : Int32), .int x3, .int (0 : Int32)]) (rest := []) C hW hx0 (cX11_falls_ok  hx0 h2) mlX11_455 (by decide) rfl hl.1 rfl (Nat.le_of_ble_eq_true rfl) (Nat.le_of_ble_eq_true rfl) (Nat.le_of_ble_eq_true rfl) dX11_cast_108 (fun H locs hW => ?_)
  refine lv_iload C.1 C.2.1 dX11_cast_111 (lv_at hl 4 rfl) ?_
  refine lv_aload_n C.1 C.2.1 dX11_cast_113 rfl (lv_at hl 0 rfl) ?_
  refine lv_iload_n C.1 C.2.1 dX11_cast_114 rfl (lv_at hl 1 rfl) ?_
  refine lv_iload_n C.1 C.2.1 dX11_cast_115 rfl (lv_at hl 2 rfl) ?_
  obtain ⟨q3, h4, hf⟩ := bd hf
  refine m_callV (As := [.int x1, .int x2]) (rest := [.int x4]) C hW hx0 (cX11_isItAt_ok  hx0 h4) mlX11_445 (by decide) rfl hl.1 rfl (Nat.le_of_ble_eq_true rfl) (Nat.le_of_ble_eq_true rfl) (Nat.le_of_ble_eq_true rfl) dX11_cast_116 (fun H locs hW => ?_)
  refine lv_if_eq (tgt := 126) C.1 C.2.1 dX11_cast_119 rfl (fun c5 => ?_) (fun c5 => ?_)
  · have hf := (if_pos c5).symm.trans hf
    refine lv_iconst C.1 C.2.1 dX11_cast_126 ic_0 ?_
    exact kX11_cast_127 hK38 C x0 x1 x2 x3 x5 x4 (0 : Int32) _ _ _ _ hx0 hW (lv_sub hl [0, 1, 2, 3, 5] rfl) hf
  · have hf := (if_neg c5).symm.trans hf
    refine lv_iconst C.1 C.2.1 dX11_cast_122 ic_1 ?_
    refine lv_goto (tgt := 127) C.1 C.2.1 dX11_cast_123 rfl ?_
    exact kX11_cast_127 hK38 C x0 x1 x2 x3 x5 x4 (1 : Int32) _ _ _ _ hx0 hW (lv_sub hl [0, 1, 2, 3, 5] rfl) hf

set_option maxRecDepth 100000 in
theorem kX11_cast_38 {p : Program} {l : Launch} {e : Env} {s : State} {m : MethodId} {av : Array Value} {below : List Frame} {meth : Method} {c : Code} {A : Nat → Prop} {G : Gv} {L : List Nat} {q : (Int32 × MS)}  (C : mC p s m av meth c cX11_cast RX11 6 (some .int)) : ∀ (n : Nat) (x0 : Nat) (x1 : Int32) (x2 : Int32) (x3 : Int32) (x4 : Int32) (x5 : Int32) (S : MS) (H : Heap) (locs : List Loc) (ls : Array Slot), (x0 < shM.1 ∧ shM.2.1 x0 = 11) → mW G shM L S A s H locs → lv_has ls 6 [(0, .ref (ad L x0)), (1, .int x1), (2, .int x2), (3, .int x3), (4, .int x4), (5, .int x5)] → fX11_cast_38  n x0 x1 x2 x3 x4 x5 S = some q → W p l e (rmd (7)) s m av below meth c H locs 0 0 (MQ below (mQ G shM L q.2 (some (.int q.1)) A) av s 0 0 A) (F0 m 38 ls []) := by
  intro n
  induction n with
  | zero =>
    intro x0 x1 x2 x3 x4 x5 S H locs ls hx0 hW hl hf
    rw [fX11_cast_38] at hf
    cases hf
  | succ n ih =>
    intro x0 x1 x2 x3 x4 x5 S H locs ls hx0 hW hl hf
    rw [fX11_cast_38] at hf
    refine lv_iload C.1 C.2.1 dX11_cast_38 (lv_at hl 5 rfl) ?_
    refine lv_bipush C.1 C.2.1 dX11_cast_40 bp_64 ?_
    refine lv_icmp_ge (tgt := 136) C.1 C.2.1 dX11_cast_42 rfl (fun c6 => ?_) (fun c6 => ?_)
    · have hf := (if_pos c6).symm.trans hf
      refine lv_iload C.1 C.2.1 dX11_cast_136 (lv_at hl 4 rfl) ?_
      cases hf
      exact m_iret C hW dX11_cast_138
    · have hf := (if_neg c6).symm.trans hf
      refine lv_aload_n C.1 C.2.1 dX11_cast_45 rfl (lv_at hl 0 rfl) ?_
      refine lv_iload C.1 C.2.1 dX11_cast_46 (lv_at hl 5 rfl) ?_
      refine lv_bipush C.1 C.2.1 dX11_cast_48 bp_8 ?_
      refine lv_idiv C.1 C.2.1 dX11_cast_50 (by decide) ?_
      refine lv_iload C.1 C.2.1 dX11_cast_51 (lv_at hl 5 rfl) ?_
      refine lv_bipush C.1 C.2.1 dX11_cast_53 bp_8 ?_
      refine lv_irem C.1 C.2.1 dX11_cast_55 (by decide) ?_
      obtain ⟨q7, h8, hf⟩ := bd hf
      refine m_callV (As := [.int (x5 / (8 : Int32)), .int (x5 - (x5 / (8 : Int32)) * (8 : Int32))]) (rest := []) C hW hx0 (cX11_isCell_ok  hx0 h8) mlX11_399 (by decide) rfl hl.1 rfl (Nat.le_of_ble_eq_true rfl) (Nat.le_of_ble_eq_true rfl) (Nat.le_of_ble_eq_true rfl) dX11_cast_56 (fun H locs hW => ?_)
      refine lv_if_eq (tgt := 130) C.1 C.2.1 dX11_cast_59 rfl (fun c9 => ?_) (fun c9 => ?_)
      · have hf := (if_pos c9).symm.trans hf
        exact kX11_cast_130 ih C x0 x1 x2 x3 x4 x5 _ _ _ _ hx0 hW (lv_sub hl [0, 1, 2, 3, 4, 5] rfl) hf
      · have hf := (if_neg c9).symm.trans hf
        refine lv_aload_n C.1 C.2.1 dX11_cast_62 rfl (lv_at hl 0 rfl) ?_
        refine lv_iload C.1 C.2.1 dX11_cast_63 (lv_at hl 5 rfl) ?_
        refine lv_bipush C.1 C.2.1 dX11_cast_65 bp_8 ?_
        refine lv_idiv C.1 C.2.1 dX11_cast_67 (by decide) ?_
        refine lv_iload C.1 C.2.1 dX11_cast_68 (lv_at hl 5 rfl) ?_
        refine lv_bipush C.1 C.2.1 dX11_cast_70 bp_8 ?_
        refine lv_irem C.1 C.2.1 dX11_cast_72 (by decide) ?_
        obtain ⟨q10, h11, hf⟩ := bd hf
        refine m_callV (As := [.int (x5 / (8 : Int32)), .int (x5 - (x5 / (8 : Int32)) * (8 : Int32))]) (rest := []) C hW hx0 (cX11_isWall_ok  hx0 h11) mlX11_430 (by decide) rfl hl.1 rfl (Nat.le_of_ble_eq_true rfl) (Nat.le_of_ble_eq_true rfl) (Nat.le_of_ble_eq_true rfl) dX11_cast_73 (fun H locs hW => ?_)
        refine lv_if_eq (tgt := 82) C.1 C.2.1 dX11_cast_76 rfl (fun c12 => ?_) (fun c12 => ?_)
        · have hf := (if_pos c12).symm.trans hf
          refine lv_aload_n C.1 C.2.1 dX11_cast_82 rfl (lv_at hl 0 rfl) ?_
          refine m_getr C hW hx0 flX11_102 (by decide) dX11_cast_83 (fun hk13 => ?_)
          refine lv_iconst C.1 C.2.1 dX11_cast_86 ic_1 ?_
          refine lv_iload C.1 C.2.1 dX11_cast_87 (lv_at hl 5 rfl) ?_
          refine lv_bipush C.1 C.2.1 dX11_cast_89 bp_8 ?_
          refine lv_idiv C.1 C.2.1 dX11_cast_91 (by decide) ?_
          obtain ⟨hb14, hf⟩ := gd hf
          refine m_iast C hW hk13 hb14 dX11_cast_92 (fun H locs hW => ?_)
          refine lv_aload_n C.1 C.2.1 dX11_cast_93 rfl (lv_at hl 0 rfl) ?_
          refine m_getr C hW hx0 flX11_105 (by decide) dX11_cast_94 (fun hk15 => ?_)
          refine lv_iconst C.1 C.2.1 dX11_cast_97 ic_1 ?_
          refine lv_iload C.1 C.2.1 dX11_cast_98 (lv_at hl 5 rfl) ?_
          refine lv_bipush C.1 C.2.1 dX11_cast_100 bp_8 ?_
          refine lv_irem C.1 C.2.1 dX11_cast_102 (by decide) ?_
          obtain ⟨hb16, hf⟩ := gd hf
          refine m_iast C hW hk15 hb16 dX11_cast_103 (fun H locs hW => ?_)
          exact kX11_cast_104 ih C x0 x1 x2 x3 x4 x5 _ _ _ _ hx0 hW (lv_sub hl [0, 1, 2, 3, 4, 5] rfl) hf
        · have hf := (if_neg c12).symm.trans hf
          refine lv_goto (tgt := 130) C.1 C.2.1 dX11_cast_79 rfl ?_
          exact kX11_cast_130 ih C x0 x1 x2 x3 x4 x5 _ _ _ _ hx0 hW (lv_sub hl [0, 1, 2, 3, 4, 5] rfl) hf

set_option maxRecDepth 100000 in
theorem cX11_cast_ok {l : Launch} {G : Gv} {L : List Nat} {S : MS} {a0 : Nat} {a1 : Int32} {a2 : Int32} {a3 : Int32} {q : (Int32 × MS)} (ha0 : a0 < shM.1 ∧ shM.2.1 a0 = 11) (hf : fX11_cast a0 a1 a2 a3 S = some q) : Mt l yX11_cast cX11_cast 6 (some .int) (7) G shM L S [.ref (ad L a0), .int a1, .int a2, .int a3] (some (.int q.1)) q.2 := by
  refine m_enter (lv := [(0, .ref (ad L a0)), (1, .int a1), (2, .int a2), (3, .int a3)]) (plainFor_of_name (by decide)) (Nat.le_of_ble_eq_true rfl) rfl ?_
  intro p e s m below meth c A ls C hW hl
  unfold fX11_cast at hf
  refine lv_aload_n C.1 C.2.1 dX11_cast_0 rfl (lv_at hl 0 rfl) ?_
  refine lv_iconst C.1 C.2.1 dX11_cast_1 ic_0 ?_
  refine m_puti C hW ha0 fpX11_163 dX11_cast_2 (fun H locs hW => ?_)
  refine lv_aload_n C.1 C.2.1 dX11_cast_5 rfl (lv_at hl 0 rfl) ?_
  refine lv_iload_n C.1 C.2.1 dX11_cast_6 rfl (lv_at hl 1 rfl) ?_
  refine lv_iload_n C.1 C.2.1 dX11_cast_7 rfl (lv_at hl 2 rfl) ?_
  obtain ⟨q17, h18, hf⟩ := bd hf
  refine m_callV (As := [.int a1, .int a2]) (rest := []) C hW ha0 (cX11_isCell_ok  ha0 h18) mlX11_399 (by decide) rfl hl.1 rfl (Nat.le_of_ble_eq_true rfl) (Nat.le_of_ble_eq_true rfl) (Nat.le_of_ble_eq_true rfl) dX11_cast_8 (fun H locs hW => ?_)
  refine lv_if_eq (tgt := 24) C.1 C.2.1 dX11_cast_11 rfl (fun c19 => ?_) (fun c19 => ?_)
  · have hf := (if_pos c19).symm.trans hf
    refine lv_iconst C.1 C.2.1 dX11_cast_24 ic_m1 ?_
    cases hf
    exact m_iret C hW dX11_cast_25
  · have hf := (if_neg c19).symm.trans hf
    refine lv_iload_n C.1 C.2.1 dX11_cast_14 rfl (lv_at hl 3 rfl) ?_
    refine lv_if_lt (tgt := 24) C.1 C.2.1 dX11_cast_15 rfl (fun c20 => ?_) (fun c20 => ?_)
    · have hf := (if_pos c20).symm.trans hf
      refine lv_iconst C.1 C.2.1 dX11_cast_24 ic_m1 ?_
      cases hf
      exact m_iret C hW dX11_cast_25
    · have hf := (if_neg c20).symm.trans hf
      refine lv_iload_n C.1 C.2.1 dX11_cast_18 rfl (lv_at hl 3 rfl) ?_
      refine lv_bipush C.1 C.2.1 dX11_cast_19 bp_24 ?_
      refine lv_icmp_lt (tgt := 26) C.1 C.2.1 dX11_cast_21 rfl (fun c21 => ?_) (fun c21 => ?_)
      · have hf := (if_pos c21).symm.trans hf
        refine lv_aload_n C.1 C.2.1 dX11_cast_26 rfl (lv_at hl 0 rfl) ?_
        refine lv_iconst C.1 C.2.1 dX11_cast_27 ic_1 ?_
        refine lv_iconst C.1 C.2.1 dX11_cast_28 ic_0 ?_
        obtain ⟨q22, h23, hf⟩ := bd hf
        refine m_callV (As := [.int (1 : Int32), .int (0 : Int32)]) (rest := []) C hW ha0 (cX11_copies_ok  ha0 h23) mlX11_488 (by decide) rfl hl.1 rfl (Nat.le_of_ble_eq_true rfl) (Nat.le_of_ble_eq_true rfl) (Nat.le_of_ble_eq_true rfl) dX11_cast_29 (fun H locs hW => ?_)
        refine lv_iconst C.1 C.2.1 dX11_cast_32 ic_0 ?_
        refine lv_istore (lv' := [(4, .int (0 : Int32)), (0, .ref (ad L a0)), (1, .int a1), (2, .int a2), (3, .int a3)]) C.1 C.2.1 dX11_cast_33 hl (by decide) rfl (fun ls hl => ?_)
        refine lv_iconst C.1 C.2.1 dX11_cast_35 ic_0 ?_
        refine lv_istore (lv' := [(5, .int (0 : Int32)), (4, .int (0 : Int32)), (0, .ref (ad L a0)), (1, .int a1), (2, .int a2), (3, .int a3)]) C.1 C.2.1 dX11_cast_36 hl (by decide) rfl (fun ls hl => ?_)
        exact kX11_cast_38  C 1000 a0 a1 a2 a3 (0 : Int32) (0 : Int32) _ _ _ _ ha0 hW (lv_sub hl [2, 3, 4, 5, 1, 0] rfl) hf
      · have hf := (if_neg c21).symm.trans hf
        refine lv_iconst C.1 C.2.1 dX11_cast_24 ic_m1 ?_
        cases hf
        exact m_iret C hW dX11_cast_25

def fX11_lampsFor_96 (K28 : Nat → Int32 → Int32 → Int32 → Int32 → MS → Option (Int32 × MS)) (x0 : Nat) (x1 : Int32) (x2 : Int32) (x3 : Int32) (x4 : Int32) (S : MS) : Option (Int32 × MS) := K28 x0 x1 x2 x3 (x4 + (1 : Int32)) S
def fX11_lampsFor_61 (K28 : Nat → Int32 → Int32 → Int32 → Int32 → MS → Option (Int32 × MS)) (x0 : Nat) (x1 : Int32) (x2 : Int32) (x3 : Int32) (x4 : Int32) (S : MS) : Option (Int32 × MS) := (if bnd (1 : Int32) (lnM (gR S x0 50)) = true then (if bnd (0 : Int32) (lnM (gR (pI S (gR S x0 50) ((1 : Int32).toNatClampNeg) x4) x0 43)) = true then (fX11_falls  x0 (1 : Int32) ((gI (pI S (gR S x0 50) ((1 : Int32).toNatClampNeg) x4) (gR (pI S (gR S x0 50) ((1 : Int32).toNatClampNeg) x4) x0 43) (0 : Int32).toNatClampNeg) - ((gI (pI S (gR S x0 50) ((1 : Int32).toNatClampNeg) x4) (gR (pI S (gR S x0 50) ((1 : Int32).toNatClampNeg) x4) x0 43) (0 : Int32).toNatClampNeg) / (24 : Int32)) * (24 : Int32)) (1 : Int32) (pI S (gR S x0 50) ((1 : Int32).toNatClampNeg) x4)).bind fun q5 => (fX11_isItAt  x0 x1 x2 q5).bind fun q7 => (if q7 = (0 : Int32) then fX11_lampsFor_96 K28 x0 x1 x2 x3 x4 q5 else fX11_lampsFor_96 K28 x0 x1 x2 x4 x4 q5) else none) else none)
def fX11_lampsFor_28  : Nat → Nat → Int32 → Int32 → Int32 → Int32 → MS → Option (Int32 × MS)
  | 0, _, _, _, _, _, _ => none
  | n + 1, x0, x1, x2, x3, x4, S => (if bnd (6 : Int32) (lnM (gR S x0 3)) = true then (if ((1 : Int32) <<< ((gI S (gR S x0 3) (6 : Int32).toNatClampNeg) &&& 31)) ≤ x4 then some (x3, S) else (if x3 < (0 : Int32) then fX11_lampsFor_61 (fX11_lampsFor_28  n) x0 x1 x2 x3 x4 S else (fX11_bitsOf  x4 S).bind fun q14 => (fX11_bitsOf  x3 S).bind fun q16 => (if q14 < q16 then fX11_lampsFor_61 (fX11_lampsFor_28  n) x0 x1 x2 x3 x4 S else fX11_lampsFor_96 (fX11_lampsFor_28  n) x0 x1 x2 x3 x4 S))) else none)
def fX11_lampsFor (a0 : Nat) (a1 : Int32) (a2 : Int32) (S : MS) : Option (Int32 × MS) := (fX11_isCell  a0 a1 a2 (pI S a0 0 (0 : Int32))).bind fun q19 => (if q19 = (0 : Int32) then some ((-1 : Int32), pI S a0 0 (0 : Int32)) else (fX11_copies  a0 (1 : Int32) (0 : Int32) (pI S a0 0 (0 : Int32))).bind fun q22 => fX11_lampsFor_28  1000 a0 a1 a2 (-2 : Int32) (0 : Int32) q22)
set_option maxRecDepth 100000 in
theorem kX11_lampsFor_96 {p : Program} {l : Launch} {e : Env} {s : State} {m : MethodId} {av : Array Value} {below : List Frame} {meth : Method} {c : Code} {A : Nat → Prop} {G : Gv} {L : List Nat} {q : (Int32 × MS)} {K28 : Nat → Int32 → Int32 → Int32 → Int32 → MS → Option (Int32 × MS)} (hK28 : ∀ (x0 : Nat) (x1 : Int32) (x2 : Int32) (x3 : Int32) (x4 : Int32) (S : MS) (H : Heap) (locs : List Loc) (ls : Array Slot), (x0 < shM.1 ∧ shM.2.1 x0 = 11) → mW G shM L S A s H locs → lv_has ls 5 [(0, .ref (ad L x0)), (1, .int x1), (2, .int x2), (3, .int x3), (4, .int x4)] → K28 x0 x1 x2 x3 x4 S = some q → W p l e (rmd (7)) s m av below meth c H locs 0 0 (MQ below (mQ G shM L q.2 (some (.int q.1)) A) av s 0 0 A) (F0 m 28 ls [])) (C : mC p s m av meth c cX11_lampsFor RX11 5 (some .int)) : ∀ (x0 : Nat) (x1 : Int32) (x2 : Int32) (x3 : Int32) (x4 : Int32) (S : MS) (H : Heap) (locs : List Loc) (ls : Array Slot), (x0 < shM.1 ∧ shM.2.1 x0 = 11) → mW G shM L S A s H locs → lv_has ls 5 [(0, .ref (ad L x0)), (1, .int x1), (2, .int x2), (3, .int x3), (4, .int x4)] → fX11_lampsFor_96 K28 x0 x1 x2 x3 x4 S = some q → W p l e (rmd (7)) s m av below meth c H locs 0 0 (MQ below (mQ G shM L q.2 (some (.int q.1)) A) av s 0 0 A) (F0 m 96 ls []) := by
  intro x0 x1 x2 x3 x4 S H locs ls hx0 hW hl hf
  unfold fX11_lampsFor_96 at hf
  refine lv_iinc (v := x4 + (1 : Int32)) (lv' := [(4, .int (x4 + (1 : Int32))), (0, .ref (ad L x0)), (1, .int x1), (2, .int x2), (3, .int x3)]) C.1 C.2.1 dX11_lampsFor_96 hl (k := 4) rfl (congrArg (fun z => x4 + z) ic_1) (by decide) rfl (fun ls hl => ?_)
  refine lv_goto (tgt := 28) C.1 C.2.1 dX11_lampsFor_99 rfl ?_
  exact hK28 x0 x1 x2 x3 (x4 + (1 : Int32)) _ _ _ _ hx0 hW (lv_sub hl [1, 2, 3, 4, 0] rfl) hf

set_option maxRecDepth 100000 in
theorem kX11_lampsFor_61 {p : Program} {l : Launch} {e : Env} {s : State} {m : MethodId} {av : Array Value} {below : List Frame} {meth : Method} {c : Code} {A : Nat → Prop} {G : Gv} {L : List Nat} {q : (Int32 × MS)} {K28 : Nat → Int32 → Int32 → Int32 → Int32 → MS → Option (Int32 × MS)} (hK28 : ∀ (x0 : Nat) (x1 : Int32) (x2 : Int32) (x3 : Int32) (x4 : Int32) (S : MS) (H : Heap) (locs : List Loc) (ls : Array Slot), (x0 < shM.1 ∧ shM.2.1 x0 = 11) → mW G shM L S A s H locs → lv_has ls 5 [(0, .ref (ad L x0)), (1, .int x1), (2, .int x2), (3, .int x3), (4, .int x4)] → K28 x0 x1 x2 x3 x4 S = some q → W p l e (rmd (7)) s m av below meth c H locs 0 0 (MQ below (mQ G shM L q.2 (some (.int q.1)) A) av s 0 0 A) (F0 m 28 ls [])) (C : mC p s m av meth c cX11_lampsFor RX11 5 (some .int)) : ∀ (x0 : Nat) (x1 : Int32) (x2 : Int32) (x3 : Int32) (x4 : Int32) (S : MS) (H : Heap) (locs : List Loc) (ls : Array Slot), (x0 < shM.1 ∧ shM.2.1 x0 = 11) → mW G shM L S A s H locs → lv_has ls 5 [(0, .ref (ad L x0)), (1, .int x1), (2, .int x2), (3, .int x3), (4, .int x4)] → fX11_lampsFor_61 K28 x0 x1 x2 x3 x4 S = some q → W p l e (rmd (7)) s m av below meth c H locs 0 0 (MQ below (mQ G shM L q.2 (some (.int q.1)) A) av s 0 0 A) (F0 m 61 ls []) := by
  intro x0 x1 x2 x3 x4 S H locs ls hx0 hW hl hf
  unfold fX11_lampsFor_61 at hf
  refine lv_aload_n C.1 C.2.1 dX11_lampsFor_61 rfl (lv_at hl 0 rfl) ?_
  refine m_getr C hW hx0 flX11_114 (by decide) dX11_lampsFor_62 (fun hk1 => ?_)
  refine lv_iconst C.1 C.2.1 dX11_lampsFor_65 ic_1 ?_
  refine lv_iload C.1 C.2.1 dX11_lampsFor_66 (lv_at hl 4 rfl) ?_
  obtain ⟨hb2, hf⟩ := gd hf
  refine m_iast C hW hk1 hb2 dX11_lampsFor_68 (fun H locs hW => ?_)
  refine lv_aload_n C.1 C.2.1 dX11_lampsFor_69 rfl (lv_at hl 0 rfl) ?_
  refine lv_iconst C.1 C.2.1 dX11_lampsFor_70 ic_1 ?_
  refine lv_aload_n C.1 C.2.1 dX11_lampsFor_71 rfl (lv_at hl 0 rfl) ?_
  refine m_getr C hW hx0 flX11_93 (by decide) dX11_lampsFor_72 (fun hk3 => ?_)
  refine lv_iconst C.1 C.2.1 dX11_lampsFor_75 ic_0 ?_
  obtain ⟨hb4, hf⟩ := gd hf
  refine m_iald C hW hk3 hb4 dX11_lampsFor_76 ?_
  refine lv_bipush C.1 C.2.1 dX11_lampsFor_77 bp_24 ?_
  refine lv_irem C.1 C.2.1 dX11_lampsFor_79 (by decide) ?_
  refine lv_iconst C.1 C.2.1 dX11_lampsFor_80 ic_1 ?_
  obtain ⟨q5, h6, hf⟩ := bd hf
  refine m_callV (As := [.int (1 : Int32), .int ((gI (pI S (gR S x0 50) ((1 : Int32).toNatClampNeg) x4) (gR (pI S (gR S x0 50) ((1 : Int32).toNatClampNeg) x4) x0 43) (0 : Int32).toNatClampNeg) - ((gI (pI S (gR S x0 50) ((1 : Int32).toNatClampNeg) x4) (gR (pI S (gR S x0 50) ((1 : Int32).toNatClampNeg) x4) x0 43) (0 : Int32).toNatClampNeg) / (24 : Int32)) * (24 : Int32)), .int (1 : Int32)]) (rest := []) C hW hx0 (cX11_falls_ok  hx0 h6) mlX11_455 (by decide) rfl hl.1 rfl (Nat.le_of_ble_eq_true rfl) (Nat.le_of_ble_eq_true rfl) (Nat.le_of_ble_eq_true rfl) dX11_lampsFor_81 (fun H locs hW => ?_)
  refine lv_aload_n C.1 C.2.1 dX11_lampsFor_84 rfl (lv_at hl 0 rfl) ?_
  refine lv_iload_n C.1 C.2.1 dX11_lampsFor_85 rfl (lv_at hl 1 rfl) ?_
  refine lv_iload_n C.1 C.2.1 dX11_lampsFor_86 rfl (lv_at hl 2 rfl) ?_
  obtain ⟨q7, h8, hf⟩ := bd hf
  refine m_callV (As := [.int x1, .int x2]) (rest := []) C hW hx0 (cX11_isItAt_ok  hx0 h8) mlX11_445 (by decide) rfl hl.1 rfl (Nat.le_of_ble_eq_true rfl) (Nat.le_of_ble_eq_true rfl) (Nat.le_of_ble_eq_true rfl) dX11_lampsFor_87 (fun H locs hW => ?_)
  refine lv_if_eq (tgt := 96) C.1 C.2.1 dX11_lampsFor_90 rfl (fun c9 => ?_) (fun c9 => ?_)
  · have hf := (if_pos c9).symm.trans hf
    exact kX11_lampsFor_96 hK28 C x0 x1 x2 x3 x4 _ _ _ _ hx0 hW (lv_sub hl [0, 1, 2, 3, 4] rfl) hf
  · have hf := (if_neg c9).symm.trans hf
    refine lv_iload C.1 C.2.1 dX11_lampsFor_93 (lv_at hl 4 rfl) ?_
    refine lv_istore_n (lv' := [(3, .int x4), (0, .ref (ad L x0)), (1, .int x1), (2, .int x2), (4, .int x4)]) C.1 C.2.1 dX11_lampsFor_95 rfl hl (by decide) rfl (fun ls hl => ?_)
    exact kX11_lampsFor_96 hK28 C x0 x1 x2 x4 x4 _ _ _ _ hx0 hW (lv_sub hl [1, 2, 3, 0, 4] rfl) hf

set_option maxRecDepth 100000 in
theorem kX11_lampsFor_28 {p : Program} {l : Launch} {e : Env} {s : State} {m : MethodId} {av : Array Value} {below : List Frame} {meth : Method} {c : Code} {A : Nat → Prop} {G : Gv} {L : List Nat} {q : (Int32 × MS)}  (C : mC p s m av meth c cX11_lampsFor RX11 5 (some .int)) : ∀ (n : Nat) (x0 : Nat) (x1 : Int32) (x2 : Int32) (x3 : Int32) (x4 : Int32) (S : MS) (H : Heap) (locs : List Loc) (ls : Array Slot), (x0 < shM.1 ∧ shM.2.1 x0 = 11) → mW G shM L S A s H locs → lv_has ls 5 [(0, .ref (ad L x0)), (1, .int x1), (2, .int x2), (3, .int x3), (4, .int x4)] → fX11_lampsFor_28  n x0 x1 x2 x3 x4 S = some q → W p l e (rmd (7)) s m av below meth c H locs 0 0 (MQ below (mQ G shM L q.2 (some (.int q.1)) A) av s 0 0 A) (F0 m 28 ls []) := by
  intro n
  induction n with
  | zero =>
    intro x0 x1 x2 x3 x4 S H locs ls hx0 hW hl hf
    rw [fX11_lampsFor_28] at hf
    cases hf
  | succ n ih =>
    intro x0 x1 x2 x3 x4 S H locs ls hx0 hW hl hf
    rw [fX11_lampsFor_28] at hf
    refine lv_iload C.1 C.2.1 dX11_lampsFor_28 (lv_at hl 4 rfl) ?_
    refine lv_iconst C.1 C.2.1 dX11_lampsFor_30 ic_1 ?_
    refine lv_aload_n C.1 C.2.1 dX11_lampsFor_31 rfl (lv_at hl 0 rfl) ?_
    refine m_getr C hW hx0 flX11_13 (by decide) dX11_lampsFor_32 (fun hk10 => ?_)
    refine lv_bipush C.1 C.2.1 dX11_lampsFor_35 bp_6 ?_
    obtain ⟨hb11, hf⟩ := gd hf
    refine m_iald C hW hk10 hb11 dX11_lampsFor_37 ?_
    refine lv_ishl C.1 C.2.1 dX11_lampsFor_38 ?_
    refine lv_icmp_ge (tgt := 102) C.1 C.2.1 dX11_lampsFor_39 rfl (fun c12 => ?_) (fun c12 => ?_)
    · have hf := (if_pos c12).symm.trans hf
      refine lv_iload_n C.1 C.2.1 dX11_lampsFor_102 rfl (lv_at hl 3 rfl) ?_
      cases hf
      exact m_iret C hW dX11_lampsFor_103
    · have hf := (if_neg c12).symm.trans hf
      refine lv_iload_n C.1 C.2.1 dX11_lampsFor_42 rfl (lv_at hl 3 rfl) ?_
      refine lv_if_lt (tgt := 61) C.1 C.2.1 dX11_lampsFor_43 rfl (fun c13 => ?_) (fun c13 => ?_)
      · have hf := (if_pos c13).symm.trans hf
        exact kX11_lampsFor_61 ih C x0 x1 x2 x3 x4 _ _ _ _ hx0 hW (lv_sub hl [0, 1, 2, 3, 4] rfl) hf
      · have hf := (if_neg c13).symm.trans hf
        refine lv_iload C.1 C.2.1 dX11_lampsFor_46 (lv_at hl 4 rfl) ?_
        obtain ⟨q14, h15, hf⟩ := bd hf
        refine m_callS (As := [.int x4]) (rest := []) C hW (cX11_bitsOf_ok   h15) mlX11_361 rfl hl.1 rfl (Nat.le_of_ble_eq_true rfl) (Nat.le_of_ble_eq_true rfl) (Nat.le_of_ble_eq_true rfl) dX11_lampsFor_48 (fun H locs hW => ?_)
        refine lv_iload_n C.1 C.2.1 dX11_lampsFor_51 rfl (lv_at hl 3 rfl) ?_
        obtain ⟨q16, h17, hf⟩ := bd hf
        refine m_callS (As := [.int x3]) (rest := [.int q14]) C hW (cX11_bitsOf_ok   h17) mlX11_361 rfl hl.1 rfl (Nat.le_of_ble_eq_true rfl) (Nat.le_of_ble_eq_true rfl) (Nat.le_of_ble_eq_true rfl) dX11_lampsFor_52 (fun H locs hW => ?_)
        refine lv_icmp_lt (tgt := 61) C.1 C.2.1 dX11_lampsFor_55 rfl (fun c18 => ?_) (fun c18 => ?_)
        · have hf := (if_pos c18).symm.trans hf
          exact kX11_lampsFor_61 ih C x0 x1 x2 x3 x4 _ _ _ _ hx0 hW (lv_sub hl [0, 1, 2, 3, 4] rfl) hf
        · have hf := (if_neg c18).symm.trans hf
          refine lv_goto (tgt := 96) C.1 C.2.1 dX11_lampsFor_58 rfl ?_
          exact kX11_lampsFor_96 ih C x0 x1 x2 x3 x4 _ _ _ _ hx0 hW (lv_sub hl [0, 1, 2, 3, 4] rfl) hf

set_option maxRecDepth 100000 in
theorem cX11_lampsFor_ok {l : Launch} {G : Gv} {L : List Nat} {S : MS} {a0 : Nat} {a1 : Int32} {a2 : Int32} {q : (Int32 × MS)} (ha0 : a0 < shM.1 ∧ shM.2.1 a0 = 11) (hf : fX11_lampsFor a0 a1 a2 S = some q) : Mt l yX11_lampsFor cX11_lampsFor 5 (some .int) (7) G shM L S [.ref (ad L a0), .int a1, .int a2] (some (.int q.1)) q.2 := by
  refine m_enter (lv := [(0, .ref (ad L a0)), (1, .int a1), (2, .int a2)]) (plainFor_of_name (by decide)) (Nat.le_of_ble_eq_true rfl) rfl ?_
  intro p e s m below meth c A ls C hW hl
  unfold fX11_lampsFor at hf
  refine lv_aload_n C.1 C.2.1 dX11_lampsFor_0 rfl (lv_at hl 0 rfl) ?_
  refine lv_iconst C.1 C.2.1 dX11_lampsFor_1 ic_0 ?_
  refine m_puti C hW ha0 fpX11_163 dX11_lampsFor_2 (fun H locs hW => ?_)
  refine lv_aload_n C.1 C.2.1 dX11_lampsFor_5 rfl (lv_at hl 0 rfl) ?_
  refine lv_iload_n C.1 C.2.1 dX11_lampsFor_6 rfl (lv_at hl 1 rfl) ?_
  refine lv_iload_n C.1 C.2.1 dX11_lampsFor_7 rfl (lv_at hl 2 rfl) ?_
  obtain ⟨q19, h20, hf⟩ := bd hf
  refine m_callV (As := [.int a1, .int a2]) (rest := []) C hW ha0 (cX11_isCell_ok  ha0 h20) mlX11_399 (by decide) rfl hl.1 rfl (Nat.le_of_ble_eq_true rfl) (Nat.le_of_ble_eq_true rfl) (Nat.le_of_ble_eq_true rfl) dX11_lampsFor_8 (fun H locs hW => ?_)
  refine lv_if_ne (tgt := 16) C.1 C.2.1 dX11_lampsFor_11 rfl (fun c21 => ?_) (fun c21 => ?_)
  · have hf := (if_neg c21).symm.trans hf
    refine lv_aload_n C.1 C.2.1 dX11_lampsFor_16 rfl (lv_at hl 0 rfl) ?_
    refine lv_iconst C.1 C.2.1 dX11_lampsFor_17 ic_1 ?_
    refine lv_iconst C.1 C.2.1 dX11_lampsFor_18 ic_0 ?_
    obtain ⟨q22, h23, hf⟩ := bd hf
    refine m_callV (As := [.int (1 : Int32), .int (0 : Int32)]) (rest := []) C hW ha0 (cX11_copies_ok  ha0 h23) mlX11_488 (by decide) rfl hl.1 rfl (Nat.le_of_ble_eq_true rfl) (Nat.le_of_ble_eq_true rfl) (Nat.le_of_ble_eq_true rfl) dX11_lampsFor_19 (fun H locs hW => ?_)
    refine lv_bipush C.1 C.2.1 dX11_lampsFor_22 bp_m2 ?_
    refine lv_istore_n (lv' := [(3, .int (-2 : Int32)), (0, .ref (ad L a0)), (1, .int a1), (2, .int a2)]) C.1 C.2.1 dX11_lampsFor_24 rfl hl (by decide) rfl (fun ls hl => ?_)
    refine lv_iconst C.1 C.2.1 dX11_lampsFor_25 ic_0 ?_
    refine lv_istore (lv' := [(4, .int (0 : Int32)), (3, .int (-2 : Int32)), (0, .ref (ad L a0)), (1, .int a1), (2, .int a2)]) C.1 C.2.1 dX11_lampsFor_26 hl (by decide) rfl (fun ls hl => ?_)
    exact kX11_lampsFor_28  C 1000 a0 a1 a2 (-2 : Int32) (0 : Int32) _ _ _ _ ha0 hW (lv_sub hl [2, 3, 4, 1, 0] rfl) hf
  · have hf := (if_pos c21).symm.trans hf
    refine lv_iconst C.1 C.2.1 dX11_lampsFor_14 ic_m1 ?_
    cases hf
    exact m_iret C hW dX11_lampsFor_15

def fX11_goOn (a0 : Nat) (S : MS) : Option MS := (if gI S a0 34 = (0 : Int32) then (fX11_token  a0 S).bind fun q2 => some q2 else some S)
set_option maxRecDepth 100000 in
theorem cX11_goOn_ok {l : Launch} {G : Gv} {L : List Nat} {S : MS} {a0 : Nat} {q : MS} (ha0 : a0 < shM.1 ∧ shM.2.1 a0 = 11) (hf : fX11_goOn a0 S = some q) : Mt l yX11_goOn cX11_goOn 1 none (7) G shM L S [.ref (ad L a0)] none q := by
  refine m_enter (lv := [(0, .ref (ad L a0))]) (plainFor_of_name (by decide)) (Nat.le_of_ble_eq_true rfl) rfl ?_
  intro p e s m below meth c A ls C hW hl
  unfold fX11_goOn at hf
  refine lv_aload_n C.1 C.2.1 dX11_goOn_0 rfl (lv_at hl 0 rfl) ?_
  refine m_geti C hW ha0 flX11_217 dX11_goOn_1 ?_
  refine lv_if_ne (tgt := 11) C.1 C.2.1 dX11_goOn_4 rfl (fun c1 => ?_) (fun c1 => ?_)
  · have hf := (if_neg c1).symm.trans hf
    cases hf
    exact m_vret C hW dX11_goOn_11
  · have hf := (if_pos c1).symm.trans hf
    refine lv_aload_n C.1 C.2.1 dX11_goOn_7 rfl (lv_at hl 0 rfl) ?_
    obtain ⟨q2, h3, hf⟩ := bd hf
    refine m_callV (As := []) (rest := []) C hW ha0 (cX11_token_ok  ha0 h3) mlX11_223 (by decide) rfl hl.1 rfl (Nat.le_of_ble_eq_true rfl) (Nat.le_of_ble_eq_true rfl) (Nat.le_of_ble_eq_true rfl) dX11_goOn_8 (fun H locs hW => ?_)
    cases hf
    exact m_vret C hW dX11_goOn_11

def fX11_numeral_46  (x0 : Nat) (x1 : Int32) (S : MS) : Option (Int32 × MS) := (if gI S x0 34 = (0 : Int32) then (fX11_token  x0 S).bind fun q2 => some (gI S x0 33, q2) else some (x1, S))
def fX11_numeral_41  (x0 : Nat) (x1 : Int32) (S : MS) : Option (Int32 × MS) := (fX11_wrong  x0 (2 : Int32) S).bind fun q4 => fX11_numeral_46  x0 x1 q4
def fX11_numeral (a0 : Nat) (a1 : Int32) (a2 : Int32) (S : MS) : Option (Int32 × MS) := (if gI S a0 34 = (0 : Int32) then (if gI S a0 32 = (2 : Int32) then (if (gI S a0 33) < a1 then fX11_numeral_41  a0 a1 S else (if (gI S a0 33) ≤ a2 then fX11_numeral_46  a0 a1 S else fX11_numeral_41  a0 a1 S)) else (fX11_wrong  a0 (1 : Int32) S).bind fun q10 => fX11_numeral_46  a0 a1 q10) else some (a1, S))
set_option maxRecDepth 100000 in
theorem kX11_numeral_46 {p : Program} {l : Launch} {e : Env} {s : State} {m : MethodId} {av : Array Value} {below : List Frame} {meth : Method} {c : Code} {A : Nat → Prop} {G : Gv} {L : List Nat} {q : (Int32 × MS)}  (C : mC p s m av meth c cX11_numeral RX11 4 (some .int)) : ∀ (x0 : Nat) (x1 : Int32) (S : MS) (H : Heap) (locs : List Loc) (ls : Array Slot), (x0 < shM.1 ∧ shM.2.1 x0 = 11) → mW G shM L S A s H locs → lv_has ls 4 [(0, .ref (ad L x0)), (1, .int x1)] → fX11_numeral_46  x0 x1 S = some q → W p l e (rmd (7)) s m av below meth c H locs 0 0 (MQ below (mQ G shM L q.2 (some (.int q.1)) A) av s 0 0 A) (F0 m 46 ls []) := by
  intro x0 x1 S H locs ls hx0 hW hl hf
  unfold fX11_numeral_46 at hf
  refine lv_aload_n C.1 C.2.1 dX11_numeral_46 rfl (lv_at hl 0 rfl) ?_
  refine m_geti C hW hx0 flX11_217 dX11_numeral_47 ?_
  refine lv_if_eq (tgt := 55) C.1 C.2.1 dX11_numeral_50 rfl (fun c1 => ?_) (fun c1 => ?_)
  · have hf := (if_pos c1).symm.trans hf
    refine lv_aload_n C.1 C.2.1 dX11_numeral_55 rfl (lv_at hl 0 rfl) ?_
    refine m_geti C hW hx0 flX11_192 dX11_numeral_56 ?_
    refine lv_istore_n (lv' := [(3, .int (gI S x0 33)), (0, .ref (ad L x0)), (1, .int x1)]) C.1 C.2.1 dX11_numeral_59 rfl hl (by decide) rfl (fun ls hl => ?_)
    refine lv_aload_n C.1 C.2.1 dX11_numeral_60 rfl (lv_at hl 1 rfl) ?_
    obtain ⟨q2, h3, hf⟩ := bd hf
    refine m_callV (As := []) (rest := []) C hW hx0 (cX11_token_ok  hx0 h3) mlX11_223 (by decide) rfl hl.1 rfl (Nat.le_of_ble_eq_true rfl) (Nat.le_of_ble_eq_true rfl) (Nat.le_of_ble_eq_true rfl) dX11_numeral_61 (fun H locs hW => ?_)
    refine lv_iload_n C.1 C.2.1 dX11_numeral_64 rfl (lv_at hl 0 rfl) ?_
    cases hf
    exact m_iret C hW dX11_numeral_65
  · have hf := (if_neg c1).symm.trans hf
    refine lv_iload_n C.1 C.2.1 dX11_numeral_53 rfl (lv_at hl 1 rfl) ?_
    cases hf
    exact m_iret C hW dX11_numeral_54

set_option maxRecDepth 100000 in
theorem kX11_numeral_41 {p : Program} {l : Launch} {e : Env} {s : State} {m : MethodId} {av : Array Value} {below : List Frame} {meth : Method} {c : Code} {A : Nat → Prop} {G : Gv} {L : List Nat} {q : (Int32 × MS)}  (C : mC p s m av meth c cX11_numeral RX11 4 (some .int)) : ∀ (x0 : Nat) (x1 : Int32) (S : MS) (H : Heap) (locs : List Loc) (ls : Array Slot), (x0 < shM.1 ∧ shM.2.1 x0 = 11) → mW G shM L S A s H locs → lv_has ls 4 [(0, .ref (ad L x0)), (1, .int x1)] → fX11_numeral_41  x0 x1 S = some q → W p l e (rmd (7)) s m av below meth c H locs 0 0 (MQ below (mQ G shM L q.2 (some (.int q.1)) A) av s 0 0 A) (F0 m 41 ls []) := by
  intro x0 x1 S H locs ls hx0 hW hl hf
  unfold fX11_numeral_41 at hf
  refine lv_aload_n C.1 C.2.1 dX11_numeral_41 rfl (lv_at hl 0 rfl) ?_
  refine lv_iconst C.1 C.2.1 dX11_numeral_42 ic_2 ?_
  obtain ⟨q4, h5, hf⟩ := bd hf
  refine m_callV (As := [.int (2 : Int32)]) (rest := []) C hW hx0 (cX11_wrong_ok  hx0 h5) mlX11_226 (by decide) rfl hl.1 rfl (Nat.le_of_ble_eq_true rfl) (Nat.le_of_ble_eq_true rfl) (Nat.le_of_ble_eq_true rfl) dX11_numeral_43 (fun H locs hW => ?_)
  exact kX11_numeral_46  C x0 x1 _ _ _ _ hx0 hW (lv_sub hl [0, 1] rfl) hf

set_option maxRecDepth 100000 in
theorem cX11_numeral_ok {l : Launch} {G : Gv} {L : List Nat} {S : MS} {a0 : Nat} {a1 : Int32} {a2 : Int32} {q : (Int32 × MS)} (ha0 : a0 < shM.1 ∧ shM.2.1 a0 = 11) (hf : fX11_numeral a0 a1 a2 S = some q) : Mt l yX11_numeral cX11_numeral 4 (some .int) (7) G shM L S [.ref (ad L a0), .int a1, .int a2] (some (.int q.1)) q.2 := by
  refine m_enter (lv := [(0, .ref (ad L a0)), (1, .int a1), (2, .int a2)]) (plainFor_of_name (by decide)) (Nat.le_of_ble_eq_true rfl) rfl ?_
  intro p e s m below meth c A ls C hW hl
  unfold fX11_numeral at hf
  refine lv_aload_n C.1 C.2.1 dX11_numeral_0 rfl (lv_at hl 0 rfl) ?_
  refine m_geti C hW ha0 flX11_217 dX11_numeral_1 ?_
  refine lv_if_eq (tgt := 9) C.1 C.2.1 dX11_numeral_4 rfl (fun c6 => ?_) (fun c6 => ?_)
  · have hf := (if_pos c6).symm.trans hf
    refine lv_aload_n C.1 C.2.1 dX11_numeral_9 rfl (lv_at hl 0 rfl) ?_
    refine m_geti C hW ha0 flX11_182 dX11_numeral_10 ?_
    refine lv_iconst C.1 C.2.1 dX11_numeral_13 ic_2 ?_
    refine lv_icmp_eq (tgt := 25) C.1 C.2.1 dX11_numeral_14 rfl (fun c7 => ?_) (fun c7 => ?_)
    · have hf := (if_pos c7).symm.trans hf
      refine lv_aload_n C.1 C.2.1 dX11_numeral_25 rfl (lv_at hl 0 rfl) ?_
      refine m_geti C hW ha0 flX11_192 dX11_numeral_26 ?_
      refine lv_iload_n C.1 C.2.1 dX11_numeral_29 rfl (lv_at hl 1 rfl) ?_
      refine lv_icmp_lt (tgt := 41) C.1 C.2.1 dX11_numeral_30 rfl (fun c8 => ?_) (fun c8 => ?_)
      · have hf := (if_pos c8).symm.trans hf
        exact kX11_numeral_41  C a0 a1 _ _ _ _ ha0 hW (lv_sub hl [0, 1] rfl) hf
      · have hf := (if_neg c8).symm.trans hf
        refine lv_aload_n C.1 C.2.1 dX11_numeral_33 rfl (lv_at hl 0 rfl) ?_
        refine m_geti C hW ha0 flX11_192 dX11_numeral_34 ?_
        refine lv_iload_n C.1 C.2.1 dX11_numeral_37 rfl (lv_at hl 2 rfl) ?_
        refine lv_icmp_le (tgt := 46) C.1 C.2.1 dX11_numeral_38 rfl (fun c9 => ?_) (fun c9 => ?_)
        · have hf := (if_pos c9).symm.trans hf
          exact kX11_numeral_46  C a0 a1 _ _ _ _ ha0 hW (lv_sub hl [0, 1] rfl) hf
        · have hf := (if_neg c9).symm.trans hf
          exact kX11_numeral_41  C a0 a1 _ _ _ _ ha0 hW (lv_sub hl [0, 1] rfl) hf
    · have hf := (if_neg c7).symm.trans hf
      refine lv_aload_n C.1 C.2.1 dX11_numeral_17 rfl (lv_at hl 0 rfl) ?_
      refine lv_iconst C.1 C.2.1 dX11_numeral_18 ic_1 ?_
      obtain ⟨q10, h11, hf⟩ := bd hf
      refine m_callV (As := [.int (1 : Int32)]) (rest := []) C hW ha0 (cX11_wrong_ok  ha0 h11) mlX11_226 (by decide) rfl hl.1 rfl (Nat.le_of_ble_eq_true rfl) (Nat.le_of_ble_eq_true rfl) (Nat.le_of_ble_eq_true rfl) dX11_numeral_19 (fun H locs hW => ?_)
      refine lv_goto (tgt := 46) C.1 C.2.1 dX11_numeral_22 rfl ?_
      exact kX11_numeral_46  C a0 a1 _ _ _ _ ha0 hW (lv_sub hl [0, 1] rfl) hf
  · have hf := (if_neg c6).symm.trans hf
    refine lv_iload_n C.1 C.2.1 dX11_numeral_7 rfl (lv_at hl 1 rfl) ?_
    cases hf
    exact m_iret C hW dX11_numeral_8

def fX11_fresh_44  (x0 : Nat) (S : MS) : Option (Int32 × MS) := (if gI S x0 34 = (0 : Int32) then (fX11_token  x0 S).bind fun q2 => some (gI S x0 33, q2) else some ((0 : Int32), S))
def fX11_fresh (a0 : Nat) (a1 : Nat) (a2 : Int32) (a3 : Int32) (S : MS) : Option (Int32 × MS) := (if gI S a0 34 = (0 : Int32) then (if gI S a0 32 = (1 : Int32) then (fX11_found  a1 a2 a3 (gI S a0 33) S).bind fun q6 => (if q6 = (-1 : Int32) then fX11_fresh_44  a0 S else (fX11_wrong  a0 (3 : Int32) S).bind fun q9 => fX11_fresh_44  a0 q9) else (fX11_wrong  a0 (1 : Int32) S).bind fun q11 => fX11_fresh_44  a0 q11) else some ((0 : Int32), S))
set_option maxRecDepth 100000 in
theorem kX11_fresh_44 {p : Program} {l : Launch} {e : Env} {s : State} {m : MethodId} {av : Array Value} {below : List Frame} {meth : Method} {c : Code} {A : Nat → Prop} {G : Gv} {L : List Nat} {q : (Int32 × MS)}  (C : mC p s m av meth c cX11_fresh RX11 5 (some .int)) : ∀ (x0 : Nat) (S : MS) (H : Heap) (locs : List Loc) (ls : Array Slot), (x0 < shM.1 ∧ shM.2.1 x0 = 11) → mW G shM L S A s H locs → lv_has ls 5 [(0, .ref (ad L x0))] → fX11_fresh_44  x0 S = some q → W p l e (rmd (7)) s m av below meth c H locs 0 0 (MQ below (mQ G shM L q.2 (some (.int q.1)) A) av s 0 0 A) (F0 m 44 ls []) := by
  intro x0 S H locs ls hx0 hW hl hf
  unfold fX11_fresh_44 at hf
  refine lv_aload_n C.1 C.2.1 dX11_fresh_44 rfl (lv_at hl 0 rfl) ?_
  refine m_geti C hW hx0 flX11_217 dX11_fresh_45 ?_
  refine lv_if_eq (tgt := 53) C.1 C.2.1 dX11_fresh_48 rfl (fun c1 => ?_) (fun c1 => ?_)
  · have hf := (if_pos c1).symm.trans hf
    refine lv_aload_n C.1 C.2.1 dX11_fresh_53 rfl (lv_at hl 0 rfl) ?_
    refine m_geti C hW hx0 flX11_192 dX11_fresh_54 ?_
    refine lv_istore (lv' := [(4, .int (gI S x0 33)), (0, .ref (ad L x0))]) C.1 C.2.1 dX11_fresh_57 hl (by decide) rfl (fun ls hl => ?_)
    refine lv_aload_n C.1 C.2.1 dX11_fresh_59 rfl (lv_at hl 1 rfl) ?_
    obtain ⟨q2, h3, hf⟩ := bd hf
    refine m_callV (As := []) (rest := []) C hW hx0 (cX11_token_ok  hx0 h3) mlX11_223 (by decide) rfl hl.1 rfl (Nat.le_of_ble_eq_true rfl) (Nat.le_of_ble_eq_true rfl) (Nat.le_of_ble_eq_true rfl) dX11_fresh_60 (fun H locs hW => ?_)
    refine lv_iload C.1 C.2.1 dX11_fresh_63 (lv_at hl 0 rfl) ?_
    cases hf
    exact m_iret C hW dX11_fresh_65
  · have hf := (if_neg c1).symm.trans hf
    refine lv_iconst C.1 C.2.1 dX11_fresh_51 ic_0 ?_
    cases hf
    exact m_iret C hW dX11_fresh_52

set_option maxRecDepth 100000 in
theorem cX11_fresh_ok {l : Launch} {G : Gv} {L : List Nat} {S : MS} {a0 : Nat} {a1 : Nat} {a2 : Int32} {a3 : Int32} {q : (Int32 × MS)} (ha0 : a0 < shM.1 ∧ shM.2.1 a0 = 11) (ha1 : a1 < shM.1 ∧ shM.2.1 a1 = 13) (hf : fX11_fresh a0 a1 a2 a3 S = some q) : Mt l yX11_fresh cX11_fresh 5 (some .int) (7) G shM L S [.ref (ad L a0), .ref (ad L a1), .int a2, .int a3] (some (.int q.1)) q.2 := by
  refine m_enter (lv := [(0, .ref (ad L a0)), (1, .ref (ad L a1)), (2, .int a2), (3, .int a3)]) (plainFor_of_name (by decide)) (Nat.le_of_ble_eq_true rfl) rfl ?_
  intro p e s m below meth c A ls C hW hl
  unfold fX11_fresh at hf
  refine lv_aload_n C.1 C.2.1 dX11_fresh_0 rfl (lv_at hl 0 rfl) ?_
  refine m_geti C hW ha0 flX11_217 dX11_fresh_1 ?_
  refine lv_if_eq (tgt := 9) C.1 C.2.1 dX11_fresh_4 rfl (fun c4 => ?_) (fun c4 => ?_)
  · have hf := (if_pos c4).symm.trans hf
    refine lv_aload_n C.1 C.2.1 dX11_fresh_9 rfl (lv_at hl 0 rfl) ?_
    refine m_geti C hW ha0 flX11_182 dX11_fresh_10 ?_
    refine lv_iconst C.1 C.2.1 dX11_fresh_13 ic_1 ?_
    refine lv_icmp_eq (tgt := 25) C.1 C.2.1 dX11_fresh_14 rfl (fun c5 => ?_) (fun c5 => ?_)
    · have hf := (if_pos c5).symm.trans hf
      refine lv_aload_n C.1 C.2.1 dX11_fresh_25 rfl (lv_at hl 1 rfl) ?_
      refine lv_iload_n C.1 C.2.1 dX11_fresh_26 rfl (lv_at hl 2 rfl) ?_
      refine lv_iload_n C.1 C.2.1 dX11_fresh_27 rfl (lv_at hl 3 rfl) ?_
      refine lv_aload_n C.1 C.2.1 dX11_fresh_28 rfl (lv_at hl 0 rfl) ?_
      refine m_geti C hW ha0 flX11_192 dX11_fresh_29 ?_
      obtain ⟨q6, h7, hf⟩ := bd hf
      refine m_callS (As := [.ref (ad L a1), .int a2, .int a3, .int (gI S a0 33)]) (rest := []) C hW (cX11_found_ok  ha1 h7) mlX11_229 rfl hl.1 rfl (Nat.le_of_ble_eq_true rfl) (Nat.le_of_ble_eq_true rfl) (Nat.le_of_ble_eq_true rfl) dX11_fresh_32 (fun H locs hW => ?_)
      refine lv_iconst C.1 C.2.1 dX11_fresh_35 ic_m1 ?_
      refine lv_icmp_eq (tgt := 44) C.1 C.2.1 dX11_fresh_36 rfl (fun c8 => ?_) (fun c8 => ?_)
      · have hf := (if_pos c8).symm.trans hf
        exact kX11_fresh_44  C a0 _ _ _ _ ha0 hW (lv_sub hl [0] rfl) hf
      · have hf := (if_neg c8).symm.trans hf
        refine lv_aload_n C.1 C.2.1 dX11_fresh_39 rfl (lv_at hl 0 rfl) ?_
        refine lv_iconst C.1 C.2.1 dX11_fresh_40 ic_3 ?_
        obtain ⟨q9, h10, hf⟩ := bd hf
        refine m_callV (As := [.int (3 : Int32)]) (rest := []) C hW ha0 (cX11_wrong_ok  ha0 h10) mlX11_226 (by decide) rfl hl.1 rfl (Nat.le_of_ble_eq_true rfl) (Nat.le_of_ble_eq_true rfl) (Nat.le_of_ble_eq_true rfl) dX11_fresh_41 (fun H locs hW => ?_)
        exact kX11_fresh_44  C a0 _ _ _ _ ha0 hW (lv_sub hl [0] rfl) hf
    · have hf := (if_neg c5).symm.trans hf
      refine lv_aload_n C.1 C.2.1 dX11_fresh_17 rfl (lv_at hl 0 rfl) ?_
      refine lv_iconst C.1 C.2.1 dX11_fresh_18 ic_1 ?_
      obtain ⟨q11, h12, hf⟩ := bd hf
      refine m_callV (As := [.int (1 : Int32)]) (rest := []) C hW ha0 (cX11_wrong_ok  ha0 h12) mlX11_226 (by decide) rfl hl.1 rfl (Nat.le_of_ble_eq_true rfl) (Nat.le_of_ble_eq_true rfl) (Nat.le_of_ble_eq_true rfl) dX11_fresh_19 (fun H locs hW => ?_)
      refine lv_goto (tgt := 44) C.1 C.2.1 dX11_fresh_22 rfl ?_
      exact kX11_fresh_44  C a0 _ _ _ _ ha0 hW (lv_sub hl [0] rfl) hf
  · have hf := (if_neg c4).symm.trans hf
    refine lv_iconst C.1 C.2.1 dX11_fresh_7 ic_0 ?_
    cases hf
    exact m_iret C hW dX11_fresh_8

