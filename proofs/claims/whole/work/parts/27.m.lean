def fX11_goesOn_2  : Nat → Nat → Int32 → Int32 → MS → Option MS
  | 0, _, _, _, _ => none
  | n + 1, x0, x1, x2, S => (if x1 ≤ x2 then some S else (fX11_passes  x0 (1 : Int32) (0 : Int32) S).bind fun q2 => (fX11_goesOn_2  n) x0 x1 (x2 + (1 : Int32)) q2)
def fX11_goesOn (a0 : Nat) (a1 : Int32) (S : MS) : Option MS := fX11_goesOn_2  1000 a0 a1 (0 : Int32) S
set_option maxRecDepth 100000 in
theorem kX11_goesOn_2 {p : Program} {l : Launch} {e : Env} {s : State} {m : MethodId} {av : Array Value} {below : List Frame} {meth : Method} {c : Code} {A : Nat → Prop} {G : Gv} {L : List Nat} {q : MS}  (C : mC p s m av meth c cX11_goesOn RX11 3 none) : ∀ (n : Nat) (x0 : Nat) (x1 : Int32) (x2 : Int32) (S : MS) (H : Heap) (locs : List Loc) (ls : Array Slot), (x0 < shM.1 ∧ shM.2.1 x0 = 11) → mW G shM L S A s H locs → lv_has ls 3 [(0, .ref (ad L x0)), (1, .int x1), (2, .int x2)] → fX11_goesOn_2  n x0 x1 x2 S = some q → W p l e (rmd (8)) s m av below meth c H locs 0 0 (MQ below (mQ G shM L q none A) av s 0 0 A) (F0 m 2 ls []) := by
  intro n
  induction n with
  | zero =>
    intro x0 x1 x2 S H locs ls hx0 hW hl hf
    rw [fX11_goesOn_2] at hf
    cases hf
  | succ n ih =>
    intro x0 x1 x2 S H locs ls hx0 hW hl hf
    rw [fX11_goesOn_2] at hf
    refine lv_iload_n C.1 C.2.1 dX11_goesOn_2 rfl (lv_at hl 2 rfl) ?_
    refine lv_iload_n C.1 C.2.1 dX11_goesOn_3 rfl (lv_at hl 1 rfl) ?_
    refine lv_icmp_ge (tgt := 19) C.1 C.2.1 dX11_goesOn_4 rfl (fun c1 => ?_) (fun c1 => ?_)
    · have hf := (if_pos c1).symm.trans hf
      cases hf
      exact m_vret C hW dX11_goesOn_19
    · have hf := (if_neg c1).symm.trans hf
      refine lv_aload_n C.1 C.2.1 dX11_goesOn_7 rfl (lv_at hl 0 rfl) ?_
      refine lv_iconst C.1 C.2.1 dX11_goesOn_8 ic_1 ?_
      refine lv_iconst C.1 C.2.1 dX11_goesOn_9 ic_0 ?_
      obtain ⟨q2, h3, hf⟩ := bd hf
      refine m_callV (As := [.int (1 : Int32), .int (0 : Int32)]) (rest := []) C hW hx0 (cX11_passes_ok  hx0 h3) mlX11_465 (by decide) rfl hl.1 rfl (Nat.le_of_ble_eq_true rfl) (Nat.le_of_ble_eq_true rfl) (Nat.le_of_ble_eq_true rfl) dX11_goesOn_10 (fun H locs hW => ?_)
      refine lv_iinc (v := x2 + (1 : Int32)) (lv' := [(2, .int (x2 + (1 : Int32))), (0, .ref (ad L x0)), (1, .int x1)]) C.1 C.2.1 dX11_goesOn_13 hl (k := 2) rfl (congrArg (fun z => x2 + z) ic_1) (by decide) rfl (fun ls hl => ?_)
      refine lv_goto (tgt := 2) C.1 C.2.1 dX11_goesOn_16 rfl ?_
      exact ih x0 x1 (x2 + (1 : Int32)) _ _ _ _ hx0 hW (lv_sub hl [1, 2, 0] rfl) hf

set_option maxRecDepth 100000 in
theorem cX11_goesOn_ok {l : Launch} {G : Gv} {L : List Nat} {S : MS} {a0 : Nat} {a1 : Int32} {q : MS} (ha0 : a0 < shM.1 ∧ shM.2.1 a0 = 11) (hf : fX11_goesOn a0 a1 S = some q) : Mt l yX11_goesOn cX11_goesOn 3 none (8) G shM L S [.ref (ad L a0), .int a1] none q := by
  refine m_enter (lv := [(0, .ref (ad L a0)), (1, .int a1)]) (plainFor_of_name (by decide)) (Nat.le_of_ble_eq_true rfl) rfl ?_
  intro p e s m below meth c A ls C hW hl
  unfold fX11_goesOn at hf
  refine lv_iconst C.1 C.2.1 dX11_goesOn_0 ic_0 ?_
  refine lv_istore_n (lv' := [(2, .int (0 : Int32)), (0, .ref (ad L a0)), (1, .int a1)]) C.1 C.2.1 dX11_goesOn_1 rfl hl (by decide) rfl (fun ls hl => ?_)
  exact kX11_goesOn_2  C 1000 a0 a1 (0 : Int32) _ _ _ _ ha0 hW (lv_sub hl [1, 2, 0] rfl) hf

def fX11_where (a0 : Nat) (a1 : Int32) (S : MS) : Option (Int32 × MS) := (fX11_fallsNow  a0 (pI S a0 0 (0 : Int32))).bind fun q1 => (if a1 = (0 : Int32) then (if bnd (0 : Int32) (lnM (gR q1 a0 46)) = true then some (gI q1 (gR q1 a0 46) (0 : Int32).toNatClampNeg, q1) else none) else if a1 = (1 : Int32) then (if bnd (0 : Int32) (lnM (gR q1 a0 47)) = true then some (gI q1 (gR q1 a0 47) (0 : Int32).toNatClampNeg, q1) else none) else if a1 = (2 : Int32) then some (gI q1 a0 58, q1) else if a1 = (3 : Int32) then some (gI q1 a0 59, q1) else if a1 = (4 : Int32) then (if gI q1 a0 60 = (0 : Int32) then some ((0 : Int32), q1) else some ((1 : Int32), q1)) else if a1 = (5 : Int32) then (if bnd (0 : Int32) (lnM (gR q1 a0 48)) = true then some (gI q1 (gR q1 a0 48) (0 : Int32).toNatClampNeg, q1) else none) else some ((-1 : Int32), q1))
set_option maxRecDepth 100000 in
theorem cX11_where_ok {l : Launch} {G : Gv} {L : List Nat} {S : MS} {a0 : Nat} {a1 : Int32} {q : (Int32 × MS)} (ha0 : a0 < shM.1 ∧ shM.2.1 a0 = 11) (hf : fX11_where a0 a1 S = some q) : Mt l yX11_where cX11_where 2 (some .int) (8) G shM L S [.ref (ad L a0), .int a1] (some (.int q.1)) q.2 := by
  refine m_enter (lv := [(0, .ref (ad L a0)), (1, .int a1)]) (plainFor_of_name (by decide)) (Nat.le_of_ble_eq_true rfl) rfl ?_
  intro p e s m below meth c A ls C hW hl
  unfold fX11_where at hf
  refine lv_aload_n C.1 C.2.1 dX11_where_0 rfl (lv_at hl 0 rfl) ?_
  refine lv_iconst C.1 C.2.1 dX11_where_1 ic_0 ?_
  refine m_puti C hW ha0 fpX11_163 dX11_where_2 (fun H locs hW => ?_)
  refine lv_aload_n C.1 C.2.1 dX11_where_5 rfl (lv_at hl 0 rfl) ?_
  obtain ⟨q1, h2, hf⟩ := bd hf
  refine m_callV (As := []) (rest := []) C hW ha0 (cX11_fallsNow_ok  ha0 h2) mlX11_469 (by decide) rfl hl.1 rfl (Nat.le_of_ble_eq_true rfl) (Nat.le_of_ble_eq_true rfl) (Nat.le_of_ble_eq_true rfl) dX11_where_6 (fun H locs hW => ?_)
  refine lv_iload_n C.1 C.2.1 dX11_where_9 rfl (lv_at hl 1 rfl) ?_
  by_cases c3 : a1 = (0 : Int32)
  · have hf := (if_pos c3).symm.trans hf
    refine lv_tableIn (tgt := 48) C.1 C.2.1 dX11_where_10 (by rw [c3]; decide) (by rw [c3]; decide) (by rw [c3]; rfl) rfl ?_
    refine lv_aload_n C.1 C.2.1 dX11_where_48 rfl (lv_at hl 0 rfl) ?_
    refine m_getr C hW ha0 flX11_102 (by decide) dX11_where_49 (fun hk4 => ?_)
    refine lv_iconst C.1 C.2.1 dX11_where_52 ic_0 ?_
    obtain ⟨hb5, hf⟩ := gd hf
    refine m_iald C hW hk4 hb5 dX11_where_53 ?_
    cases hf
    exact m_iret C hW dX11_where_54
  have hf := (if_neg c3).symm.trans hf
  by_cases c6 : a1 = (1 : Int32)
  · have hf := (if_pos c6).symm.trans hf
    refine lv_tableIn (tgt := 55) C.1 C.2.1 dX11_where_10 (by rw [c6]; decide) (by rw [c6]; decide) (by rw [c6]; rfl) rfl ?_
    refine lv_aload_n C.1 C.2.1 dX11_where_55 rfl (lv_at hl 0 rfl) ?_
    refine m_getr C hW ha0 flX11_105 (by decide) dX11_where_56 (fun hk7 => ?_)
    refine lv_iconst C.1 C.2.1 dX11_where_59 ic_0 ?_
    obtain ⟨hb8, hf⟩ := gd hf
    refine m_iald C hW hk7 hb8 dX11_where_60 ?_
    cases hf
    exact m_iret C hW dX11_where_61
  have hf := (if_neg c6).symm.trans hf
  by_cases c9 : a1 = (2 : Int32)
  · have hf := (if_pos c9).symm.trans hf
    refine lv_tableIn (tgt := 62) C.1 C.2.1 dX11_where_10 (by rw [c9]; decide) (by rw [c9]; decide) (by rw [c9]; rfl) rfl ?_
    refine lv_aload_n C.1 C.2.1 dX11_where_62 rfl (lv_at hl 0 rfl) ?_
    refine m_geti C hW ha0 flX11_387 dX11_where_63 ?_
    cases hf
    exact m_iret C hW dX11_where_66
  have hf := (if_neg c9).symm.trans hf
  by_cases c10 : a1 = (3 : Int32)
  · have hf := (if_pos c10).symm.trans hf
    refine lv_tableIn (tgt := 67) C.1 C.2.1 dX11_where_10 (by rw [c10]; decide) (by rw [c10]; decide) (by rw [c10]; rfl) rfl ?_
    refine lv_aload_n C.1 C.2.1 dX11_where_67 rfl (lv_at hl 0 rfl) ?_
    refine m_geti C hW ha0 flX11_393 dX11_where_68 ?_
    cases hf
    exact m_iret C hW dX11_where_71
  have hf := (if_neg c10).symm.trans hf
  by_cases c11 : a1 = (4 : Int32)
  · have hf := (if_pos c11).symm.trans hf
    refine lv_tableIn (tgt := 72) C.1 C.2.1 dX11_where_10 (by rw [c11]; decide) (by rw [c11]; decide) (by rw [c11]; rfl) rfl ?_
    refine lv_aload_n C.1 C.2.1 dX11_where_72 rfl (lv_at hl 0 rfl) ?_
    refine m_geti C hW ha0 flX11_403 dX11_where_73 ?_
    refine lv_if_eq (tgt := 83) C.1 C.2.1 dX11_where_76 rfl (fun c12 => ?_) (fun c12 => ?_)
    · have hf := (if_pos c12).symm.trans hf
      refine lv_iconst C.1 C.2.1 dX11_where_83 ic_0 ?_
      cases hf
      exact m_iret C hW dX11_where_84
    · have hf := (if_neg c12).symm.trans hf
      refine lv_iconst C.1 C.2.1 dX11_where_79 ic_1 ?_
      refine lv_goto (tgt := 84) C.1 C.2.1 dX11_where_80 rfl ?_
      cases hf
      exact m_iret C hW dX11_where_84
  have hf := (if_neg c11).symm.trans hf
  by_cases c13 : a1 = (5 : Int32)
  · have hf := (if_pos c13).symm.trans hf
    refine lv_tableIn (tgt := 85) C.1 C.2.1 dX11_where_10 (by rw [c13]; decide) (by rw [c13]; decide) (by rw [c13]; rfl) rfl ?_
    refine lv_aload_n C.1 C.2.1 dX11_where_85 rfl (lv_at hl 0 rfl) ?_
    refine m_getr C hW ha0 flX11_108 (by decide) dX11_where_86 (fun hk14 => ?_)
    refine lv_iconst C.1 C.2.1 dX11_where_89 ic_0 ?_
    obtain ⟨hb15, hf⟩ := gd hf
    refine m_iald C hW hk14 hb15 dX11_where_90 ?_
    cases hf
    exact m_iret C hW dX11_where_91
  have hf := (if_neg c13).symm.trans hf
  by_cases ho16 : a1.toInt < 0 ∨ 5 < a1.toInt
  · refine lv_tableOut (tgt := 92) C.1 C.2.1 dX11_where_10 ho16 rfl ?_
    refine lv_iconst C.1 C.2.1 dX11_where_92 ic_m1 ?_
    cases hf
    exact m_iret C hW dX11_where_93
  · exfalso
    have := tn_e c3 (0) (by decide)
    have := tn_e c6 (1) (by decide)
    have := tn_e c9 (2) (by decide)
    have := tn_e c10 (3) (by decide)
    have := tn_e c11 (4) (by decide)
    have := tn_e c13 (5) (by decide)
    omega

def fX11_go_42  : Nat → Nat → Int32 → Int32 → MS → Option (Int32 × MS)
  | 0, _, _, _, _ => none
  | n + 1, x0, x1, x2, S => (if x1 ≤ x2 then (if bnd (0 : Int32) (lnM (gR S x0 43)) = true then some (gI S (gR S x0 43) (0 : Int32).toNatClampNeg, S) else none) else (fX11_passes  x0 (0 : Int32) (1 : Int32) S).bind fun q4 => (fX11_go_42  n) x0 x1 (x2 + (1 : Int32)) q4)
def fX11_go_40  (x0 : Nat) (x1 : Int32) (S : MS) : Option (Int32 × MS) := fX11_go_42  1000 x0 x1 (0 : Int32) S
def fX11_go (a0 : Nat) (a1 : Int32) (S : MS) : Option (Int32 × MS) := (if a1 < (0 : Int32) then some ((-1 : Int32), pI S a0 0 (0 : Int32)) else (if (99 : Int32) < a1 then some ((-1 : Int32), pI S a0 0 (0 : Int32)) else (if bnd (0 : Int32) (lnM (gR (pI S a0 0 (0 : Int32)) a0 43)) = true then (if ((gI (pI S a0 0 (0 : Int32)) (gR (pI S a0 0 (0 : Int32)) a0 43) (0 : Int32).toNatClampNeg) + a1) ≤ (9900 : Int32) then (if a1 ≤ (0 : Int32) then fX11_go_40  a0 a1 (pI S a0 0 (0 : Int32)) else fX11_go_40  a0 a1 (pI (pI S a0 0 (0 : Int32)) a0 56 (0 : Int32))) else some ((-1 : Int32), pI S a0 0 (0 : Int32))) else none)))
set_option maxRecDepth 100000 in
theorem kX11_go_42 {p : Program} {l : Launch} {e : Env} {s : State} {m : MethodId} {av : Array Value} {below : List Frame} {meth : Method} {c : Code} {A : Nat → Prop} {G : Gv} {L : List Nat} {q : (Int32 × MS)}  (C : mC p s m av meth c cX11_go RX11 3 (some .int)) : ∀ (n : Nat) (x0 : Nat) (x1 : Int32) (x2 : Int32) (S : MS) (H : Heap) (locs : List Loc) (ls : Array Slot), (x0 < shM.1 ∧ shM.2.1 x0 = 11) → mW G shM L S A s H locs → lv_has ls 3 [(0, .ref (ad L x0)), (1, .int x1), (2, .int x2)] → fX11_go_42  n x0 x1 x2 S = some q → W p l e (rmd (8)) s m av below meth c H locs 0 0 (MQ below (mQ G shM L q.2 (some (.int q.1)) A) av s 0 0 A) (F0 m 42 ls []) := by
  intro n
  induction n with
  | zero =>
    intro x0 x1 x2 S H locs ls hx0 hW hl hf
    rw [fX11_go_42] at hf
    cases hf
  | succ n ih =>
    intro x0 x1 x2 S H locs ls hx0 hW hl hf
    rw [fX11_go_42] at hf
    refine lv_iload_n C.1 C.2.1 dX11_go_42 rfl (lv_at hl 2 rfl) ?_
    refine lv_iload_n C.1 C.2.1 dX11_go_43 rfl (lv_at hl 1 rfl) ?_
    refine lv_icmp_ge (tgt := 59) C.1 C.2.1 dX11_go_44 rfl (fun c1 => ?_) (fun c1 => ?_)
    · have hf := (if_pos c1).symm.trans hf
      refine lv_aload_n C.1 C.2.1 dX11_go_59 rfl (lv_at hl 0 rfl) ?_
      refine m_getr C hW hx0 flX11_93 (by decide) dX11_go_60 (fun hk2 => ?_)
      refine lv_iconst C.1 C.2.1 dX11_go_63 ic_0 ?_
      obtain ⟨hb3, hf⟩ := gd hf
      refine m_iald C hW hk2 hb3 dX11_go_64 ?_
      cases hf
      exact m_iret C hW dX11_go_65
    · have hf := (if_neg c1).symm.trans hf
      refine lv_aload_n C.1 C.2.1 dX11_go_47 rfl (lv_at hl 0 rfl) ?_
      refine lv_iconst C.1 C.2.1 dX11_go_48 ic_0 ?_
      refine lv_iconst C.1 C.2.1 dX11_go_49 ic_1 ?_
      obtain ⟨q4, h5, hf⟩ := bd hf
      refine m_callV (As := [.int (0 : Int32), .int (1 : Int32)]) (rest := []) C hW hx0 (cX11_passes_ok  hx0 h5) mlX11_465 (by decide) rfl hl.1 rfl (Nat.le_of_ble_eq_true rfl) (Nat.le_of_ble_eq_true rfl) (Nat.le_of_ble_eq_true rfl) dX11_go_50 (fun H locs hW => ?_)
      refine lv_iinc (v := x2 + (1 : Int32)) (lv' := [(2, .int (x2 + (1 : Int32))), (0, .ref (ad L x0)), (1, .int x1)]) C.1 C.2.1 dX11_go_53 hl (k := 2) rfl (congrArg (fun z => x2 + z) ic_1) (by decide) rfl (fun ls hl => ?_)
      refine lv_goto (tgt := 42) C.1 C.2.1 dX11_go_56 rfl ?_
      exact ih x0 x1 (x2 + (1 : Int32)) _ _ _ _ hx0 hW (lv_sub hl [1, 2, 0] rfl) hf

set_option maxRecDepth 100000 in
theorem kX11_go_40 {p : Program} {l : Launch} {e : Env} {s : State} {m : MethodId} {av : Array Value} {below : List Frame} {meth : Method} {c : Code} {A : Nat → Prop} {G : Gv} {L : List Nat} {q : (Int32 × MS)}  (C : mC p s m av meth c cX11_go RX11 3 (some .int)) : ∀ (x0 : Nat) (x1 : Int32) (S : MS) (H : Heap) (locs : List Loc) (ls : Array Slot), (x0 < shM.1 ∧ shM.2.1 x0 = 11) → mW G shM L S A s H locs → lv_has ls 3 [(0, .ref (ad L x0)), (1, .int x1)] → fX11_go_40  x0 x1 S = some q → W p l e (rmd (8)) s m av below meth c H locs 0 0 (MQ below (mQ G shM L q.2 (some (.int q.1)) A) av s 0 0 A) (F0 m 40 ls []) := by
  intro x0 x1 S H locs ls hx0 hW hl hf
  unfold fX11_go_40 at hf
  refine lv_iconst C.1 C.2.1 dX11_go_40 ic_0 ?_
  refine lv_istore_n (lv' := [(2, .int (0 : Int32)), (0, .ref (ad L x0)), (1, .int x1)]) C.1 C.2.1 dX11_go_41 rfl hl (by decide) rfl (fun ls hl => ?_)
  exact kX11_go_42  C 1000 x0 x1 (0 : Int32) _ _ _ _ hx0 hW (lv_sub hl [1, 2, 0] rfl) hf

set_option maxRecDepth 100000 in
theorem cX11_go_ok {l : Launch} {G : Gv} {L : List Nat} {S : MS} {a0 : Nat} {a1 : Int32} {q : (Int32 × MS)} (ha0 : a0 < shM.1 ∧ shM.2.1 a0 = 11) (hf : fX11_go a0 a1 S = some q) : Mt l yX11_go cX11_go 3 (some .int) (8) G shM L S [.ref (ad L a0), .int a1] (some (.int q.1)) q.2 := by
  refine m_enter (lv := [(0, .ref (ad L a0)), (1, .int a1)]) (plainFor_of_name (by decide)) (Nat.le_of_ble_eq_true rfl) rfl ?_
  intro p e s m below meth c A ls C hW hl
  unfold fX11_go at hf
  refine lv_aload_n C.1 C.2.1 dX11_go_0 rfl (lv_at hl 0 rfl) ?_
  refine lv_iconst C.1 C.2.1 dX11_go_1 ic_0 ?_
  refine m_puti C hW ha0 fpX11_163 dX11_go_2 (fun H locs hW => ?_)
  refine lv_iload_n C.1 C.2.1 dX11_go_5 rfl (lv_at hl 1 rfl) ?_
  refine lv_if_lt (tgt := 29) C.1 C.2.1 dX11_go_6 rfl (fun c6 => ?_) (fun c6 => ?_)
  · have hf := (if_pos c6).symm.trans hf
    refine lv_iconst C.1 C.2.1 dX11_go_29 ic_m1 ?_
    cases hf
    exact m_iret C hW dX11_go_30
  · have hf := (if_neg c6).symm.trans hf
    refine lv_iload_n C.1 C.2.1 dX11_go_9 rfl (lv_at hl 1 rfl) ?_
    refine lv_bipush C.1 C.2.1 dX11_go_10 bp_99 ?_
    refine lv_icmp_gt (tgt := 29) C.1 C.2.1 dX11_go_12 rfl (fun c7 => ?_) (fun c7 => ?_)
    · have hf := (if_pos c7).symm.trans hf
      refine lv_iconst C.1 C.2.1 dX11_go_29 ic_m1 ?_
      cases hf
      exact m_iret C hW dX11_go_30
    · have hf := (if_neg c7).symm.trans hf
      refine lv_aload_n C.1 C.2.1 dX11_go_15 rfl (lv_at hl 0 rfl) ?_
      refine m_getr C hW ha0 flX11_93 (by decide) dX11_go_16 (fun hk8 => ?_)
      refine lv_iconst C.1 C.2.1 dX11_go_19 ic_0 ?_
      obtain ⟨hb9, hf⟩ := gd hf
      refine m_iald C hW hk8 hb9 dX11_go_20 ?_
      refine lv_iload_n C.1 C.2.1 dX11_go_21 rfl (lv_at hl 1 rfl) ?_
      refine lv_iadd C.1 C.2.1 dX11_go_22 ?_
      refine lv_sipush C.1 C.2.1 dX11_go_23 sp_9900 ?_
      refine lv_icmp_le (tgt := 31) C.1 C.2.1 dX11_go_26 rfl (fun c10 => ?_) (fun c10 => ?_)
      · have hf := (if_pos c10).symm.trans hf
        refine lv_iload_n C.1 C.2.1 dX11_go_31 rfl (lv_at hl 1 rfl) ?_
        refine lv_if_le (tgt := 40) C.1 C.2.1 dX11_go_32 rfl (fun c11 => ?_) (fun c11 => ?_)
        · have hf := (if_pos c11).symm.trans hf
          exact kX11_go_40  C a0 a1 _ _ _ _ ha0 hW (lv_sub hl [0, 1] rfl) hf
        · have hf := (if_neg c11).symm.trans hf
          refine lv_aload_n C.1 C.2.1 dX11_go_35 rfl (lv_at hl 0 rfl) ?_
          refine lv_iconst C.1 C.2.1 dX11_go_36 ic_0 ?_
          refine m_puti C hW ha0 fpX11_335 dX11_go_37 (fun H locs hW => ?_)
          exact kX11_go_40  C a0 a1 _ _ _ _ ha0 hW (lv_sub hl [0, 1] rfl) hf
      · have hf := (if_neg c10).symm.trans hf
        refine lv_iconst C.1 C.2.1 dX11_go_29 ic_m1 ?_
        cases hf
        exact m_iret C hW dX11_go_30

def fX11_when_23  : Nat → Nat → Int32 → Int32 → MS → Option (Int32 × MS)
  | 0, _, _, _, _ => none
  | n + 1, x0, x1, x2, S => (if (99 : Int32) < x2 then some ((-2 : Int32), S) else (if bnd (1 : Int32) (lnM (gR S x0 51)) = true then (if ((gI S (gR S x0 51) (1 : Int32).toNatClampNeg) >>> (x1 &&& 31)) &&& (1 : Int32) = (1 : Int32) then some (x2, S) else (fX11_passes  x0 (1 : Int32) (0 : Int32) S).bind fun q5 => (fX11_when_23  n) x0 x1 (x2 + (1 : Int32)) q5) else none))
def fX11_when (a0 : Nat) (a1 : Int32) (S : MS) : Option (Int32 × MS) := (fX11_isDoing  a0 a1 (pI S a0 0 (0 : Int32))).bind fun q7 => (if q7 = (0 : Int32) then some ((-1 : Int32), pI S a0 0 (0 : Int32)) else (fX11_copies  a0 (1 : Int32) (0 : Int32) (pI S a0 0 (0 : Int32))).bind fun q10 => fX11_when_23  1000 a0 a1 (0 : Int32) q10)
set_option maxRecDepth 100000 in
theorem kX11_when_23 {p : Program} {l : Launch} {e : Env} {s : State} {m : MethodId} {av : Array Value} {below : List Frame} {meth : Method} {c : Code} {A : Nat → Prop} {G : Gv} {L : List Nat} {q : (Int32 × MS)}  (C : mC p s m av meth c cX11_when RX11 3 (some .int)) : ∀ (n : Nat) (x0 : Nat) (x1 : Int32) (x2 : Int32) (S : MS) (H : Heap) (locs : List Loc) (ls : Array Slot), (x0 < shM.1 ∧ shM.2.1 x0 = 11) → mW G shM L S A s H locs → lv_has ls 3 [(0, .ref (ad L x0)), (1, .int x1), (2, .int x2)] → fX11_when_23  n x0 x1 x2 S = some q → W p l e (rmd (8)) s m av below meth c H locs 0 0 (MQ below (mQ G shM L q.2 (some (.int q.1)) A) av s 0 0 A) (F0 m 23 ls []) := by
  intro n
  induction n with
  | zero =>
    intro x0 x1 x2 S H locs ls hx0 hW hl hf
    rw [fX11_when_23] at hf
    cases hf
  | succ n ih =>
    intro x0 x1 x2 S H locs ls hx0 hW hl hf
    rw [fX11_when_23] at hf
    refine lv_iload_n C.1 C.2.1 dX11_when_23 rfl (lv_at hl 2 rfl) ?_
    refine lv_bipush C.1 C.2.1 dX11_when_24 bp_99 ?_
    refine lv_icmp_gt (tgt := 57) C.1 C.2.1 dX11_when_26 rfl (fun c1 => ?_) (fun c1 => ?_)
    · have hf := (if_pos c1).symm.trans hf
      refine lv_bipush C.1 C.2.1 dX11_when_57 bp_m2 ?_
      cases hf
      exact m_iret C hW dX11_when_59
    · have hf := (if_neg c1).symm.trans hf
      refine lv_aload_n C.1 C.2.1 dX11_when_29 rfl (lv_at hl 0 rfl) ?_
      refine m_getr C hW hx0 flX11_117 (by decide) dX11_when_30 (fun hk2 => ?_)
      refine lv_iconst C.1 C.2.1 dX11_when_33 ic_1 ?_
      obtain ⟨hb3, hf⟩ := gd hf
      refine m_iald C hW hk2 hb3 dX11_when_34 ?_
      refine lv_iload_n C.1 C.2.1 dX11_when_35 rfl (lv_at hl 1 rfl) ?_
      refine lv_ishr C.1 C.2.1 dX11_when_36 ?_
      refine lv_iconst C.1 C.2.1 dX11_when_37 ic_1 ?_
      refine lv_iand C.1 C.2.1 dX11_when_38 ?_
      refine lv_iconst C.1 C.2.1 dX11_when_39 ic_1 ?_
      refine lv_icmp_ne (tgt := 45) C.1 C.2.1 dX11_when_40 rfl (fun c4 => ?_) (fun c4 => ?_)
      · have hf := (if_neg c4).symm.trans hf
        refine lv_aload_n C.1 C.2.1 dX11_when_45 rfl (lv_at hl 0 rfl) ?_
        refine lv_iconst C.1 C.2.1 dX11_when_46 ic_1 ?_
        refine lv_iconst C.1 C.2.1 dX11_when_47 ic_0 ?_
        obtain ⟨q5, h6, hf⟩ := bd hf
        refine m_callV (As := [.int (1 : Int32), .int (0 : Int32)]) (rest := []) C hW hx0 (cX11_passes_ok  hx0 h6) mlX11_465 (by decide) rfl hl.1 rfl (Nat.le_of_ble_eq_true rfl) (Nat.le_of_ble_eq_true rfl) (Nat.le_of_ble_eq_true rfl) dX11_when_48 (fun H locs hW => ?_)
        refine lv_iinc (v := x2 + (1 : Int32)) (lv' := [(2, .int (x2 + (1 : Int32))), (0, .ref (ad L x0)), (1, .int x1)]) C.1 C.2.1 dX11_when_51 hl (k := 2) rfl (congrArg (fun z => x2 + z) ic_1) (by decide) rfl (fun ls hl => ?_)
        refine lv_goto (tgt := 23) C.1 C.2.1 dX11_when_54 rfl ?_
        exact ih x0 x1 (x2 + (1 : Int32)) _ _ _ _ hx0 hW (lv_sub hl [1, 2, 0] rfl) hf
      · have hf := (if_pos c4).symm.trans hf
        refine lv_iload_n C.1 C.2.1 dX11_when_43 rfl (lv_at hl 2 rfl) ?_
        cases hf
        exact m_iret C hW dX11_when_44

set_option maxRecDepth 100000 in
theorem cX11_when_ok {l : Launch} {G : Gv} {L : List Nat} {S : MS} {a0 : Nat} {a1 : Int32} {q : (Int32 × MS)} (ha0 : a0 < shM.1 ∧ shM.2.1 a0 = 11) (hf : fX11_when a0 a1 S = some q) : Mt l yX11_when cX11_when 3 (some .int) (8) G shM L S [.ref (ad L a0), .int a1] (some (.int q.1)) q.2 := by
  refine m_enter (lv := [(0, .ref (ad L a0)), (1, .int a1)]) (plainFor_of_name (by decide)) (Nat.le_of_ble_eq_true rfl) rfl ?_
  intro p e s m below meth c A ls C hW hl
  unfold fX11_when at hf
  refine lv_aload_n C.1 C.2.1 dX11_when_0 rfl (lv_at hl 0 rfl) ?_
  refine lv_iconst C.1 C.2.1 dX11_when_1 ic_0 ?_
  refine m_puti C hW ha0 fpX11_163 dX11_when_2 (fun H locs hW => ?_)
  refine lv_aload_n C.1 C.2.1 dX11_when_5 rfl (lv_at hl 0 rfl) ?_
  refine lv_iload_n C.1 C.2.1 dX11_when_6 rfl (lv_at hl 1 rfl) ?_
  obtain ⟨q7, h8, hf⟩ := bd hf
  refine m_callV (As := [.int a1]) (rest := []) C hW ha0 (cX11_isDoing_ok  ha0 h8) mlX11_472 (by decide) rfl hl.1 rfl (Nat.le_of_ble_eq_true rfl) (Nat.le_of_ble_eq_true rfl) (Nat.le_of_ble_eq_true rfl) dX11_when_7 (fun H locs hW => ?_)
  refine lv_if_ne (tgt := 15) C.1 C.2.1 dX11_when_10 rfl (fun c9 => ?_) (fun c9 => ?_)
  · have hf := (if_neg c9).symm.trans hf
    refine lv_aload_n C.1 C.2.1 dX11_when_15 rfl (lv_at hl 0 rfl) ?_
    refine lv_iconst C.1 C.2.1 dX11_when_16 ic_1 ?_
    refine lv_iconst C.1 C.2.1 dX11_when_17 ic_0 ?_
    obtain ⟨q10, h11, hf⟩ := bd hf
    refine m_callV (As := [.int (1 : Int32), .int (0 : Int32)]) (rest := []) C hW ha0 (cX11_copies_ok  ha0 h11) mlX11_488 (by decide) rfl hl.1 rfl (Nat.le_of_ble_eq_true rfl) (Nat.le_of_ble_eq_true rfl) (Nat.le_of_ble_eq_true rfl) dX11_when_18 (fun H locs hW => ?_)
    refine lv_iconst C.1 C.2.1 dX11_when_21 ic_0 ?_
    refine lv_istore_n (lv' := [(2, .int (0 : Int32)), (0, .ref (ad L a0)), (1, .int a1)]) C.1 C.2.1 dX11_when_22 rfl hl (by decide) rfl (fun ls hl => ?_)
    exact kX11_when_23  C 1000 a0 a1 (0 : Int32) _ _ _ _ ha0 hW (lv_sub hl [1, 2, 0] rfl) hf
  · have hf := (if_pos c9).symm.trans hf
    refine lv_iconst C.1 C.2.1 dX11_when_13 ic_m1 ?_
    cases hf
    exact m_iret C hW dX11_when_14

def fX11_plan_175 (K23 : Nat → Int32 → Int32 → MS → Option (Int32 × MS)) (x0 : Nat) (x1 : Int32) (x2 : Int32) (S : MS) : Option (Int32 × MS) := K23 x0 x1 (x2 + (1 : Int32)) S
def fX11_plan_149 (K23 : Nat → Int32 → Int32 → MS → Option (Int32 × MS)) : Nat → Nat → Int32 → Int32 → Int32 → MS → Option (Int32 × MS)
  | 0, _, _, _, _, _ => none
  | n + 1, x0, x1, x2, x4, S => (if (4 : Int32) ≤ x4 then fX11_plan_175 K23 x0 x1 x2 S else (if bnd x4 (lnM (gR S x0 63)) = true then (if bnd x4 (lnM (gR S x0 64)) = true then (fX11_plan_149 K23 n) x0 x1 x2 (x4 + (1 : Int32)) (pI S (gR S x0 64) x4.toNatClampNeg (gI S (gR S x0 63) x4.toNatClampNeg)) else none) else none))
def fX11_plan_106 (K23 : Nat → Int32 → Int32 → MS → Option (Int32 × MS)) (K80 : Nat → Int32 → Int32 → Int32 → MS → Option (Int32 × MS)) (x0 : Nat) (x1 : Int32) (x2 : Int32) (x3 : Int32) (S : MS) : Option (Int32 × MS) := (fX11_passes  x0 (1 : Int32) (0 : Int32) S).bind fun q6 => K80 x0 x1 x2 (x3 + (1 : Int32)) q6
def fX11_plan_80 (K23 : Nat → Int32 → Int32 → MS → Option (Int32 × MS)) : Nat → Nat → Int32 → Int32 → Int32 → MS → Option (Int32 × MS)
  | 0, _, _, _, _, _ => none
  | n + 1, x0, x1, x2, x3, S => (if (4 : Int32) ≤ x3 then (fX11_worthOf  x0 (1 : Int32) S).bind fun q9 => (fX11_worthOf  x0 (0 : Int32) S).bind fun q11 => (if (gI S x0 65) < (q9 - q11) then fX11_plan_149 K23 1000 x0 x1 x2 (0 : Int32) (pI S x0 65 (q9 - q11)) else fX11_plan_175 K23 x0 x1 x2 S) else (if bnd x3 (lnM (gR S x0 63)) = true then (if (4 : Int32) ≤ (gI S (gR S x0 63) x3.toNatClampNeg) then fX11_plan_106 K23 (fX11_plan_80 K23 n) x0 x1 x2 x3 S else (if bnd x3 (lnM (gR S x0 63)) = true then (fX11_triesStep  x0 (1 : Int32) (gI S (gR S x0 63) x3.toNatClampNeg) S).bind fun q19 => fX11_plan_106 K23 (fX11_plan_80 K23 n) x0 x1 x2 x3 q19 else none)) else none))
def fX11_plan_72 (K23 : Nat → Int32 → Int32 → MS → Option (Int32 × MS)) (x0 : Nat) (x1 : Int32) (x2 : Int32) (S : MS) : Option (Int32 × MS) := (fX11_copies  x0 (1 : Int32) (0 : Int32) S).bind fun q21 => fX11_plan_80 K23 1000 x0 x1 x2 (0 : Int32) q21
def fX11_plan_52 (K23 : Nat → Int32 → Int32 → MS → Option (Int32 × MS)) (x0 : Nat) (x1 : Int32) (x2 : Int32) (S : MS) : Option (Int32 × MS) := (if bnd (2 : Int32) (lnM (gR S x0 63)) = true then (if bnd (3 : Int32) (lnM (gR (pI S (gR S x0 63) ((2 : Int32).toNatClampNeg) ((x2 / (5 : Int32)) - ((x2 / (5 : Int32)) / (5 : Int32)) * (5 : Int32))) x0 63)) = true then fX11_plan_72 K23 x0 x1 x2 (pI (pI S (gR S x0 63) ((2 : Int32).toNatClampNeg) ((x2 / (5 : Int32)) - ((x2 / (5 : Int32)) / (5 : Int32)) * (5 : Int32))) (gR (pI S (gR S x0 63) ((2 : Int32).toNatClampNeg) ((x2 / (5 : Int32)) - ((x2 / (5 : Int32)) / (5 : Int32)) * (5 : Int32))) x0 63) ((3 : Int32).toNatClampNeg) (x2 - (x2 / (5 : Int32)) * (5 : Int32))) else none) else none)
def fX11_plan_23  : Nat → Nat → Int32 → Int32 → MS → Option (Int32 × MS)
  | 0, _, _, _, _ => none
  | n + 1, x0, x1, x2, S => (if (625 : Int32) ≤ x2 then (if x1 = (4 : Int32) then some (gI S x0 65, S) else (if bnd x1 (lnM (gR S x0 64)) = true then some (gI S (gR S x0 64) x1.toNatClampNeg, S) else none)) else (if bnd (0 : Int32) (lnM (gR S x0 63)) = true then (if bnd (1 : Int32) (lnM (gR (pI S (gR S x0 63) ((0 : Int32).toNatClampNeg) (x2 / (125 : Int32))) x0 63)) = true then fX11_plan_52 (fX11_plan_23  n) x0 x1 x2 (pI (pI S (gR S x0 63) ((0 : Int32).toNatClampNeg) (x2 / (125 : Int32))) (gR (pI S (gR S x0 63) ((0 : Int32).toNatClampNeg) (x2 / (125 : Int32))) x0 63) ((1 : Int32).toNatClampNeg) ((x2 / (25 : Int32)) - ((x2 / (25 : Int32)) / (5 : Int32)) * (5 : Int32))) else none) else none))
def fX11_plan (a0 : Nat) (a1 : Int32) (S : MS) : Option (Int32 × MS) := (if a1 < (0 : Int32) then some ((-1 : Int32), pI S a0 0 (0 : Int32)) else (if a1 ≤ (4 : Int32) then fX11_plan_23  1000 a0 a1 (0 : Int32) (pI (pI S a0 0 (0 : Int32)) a0 65 (-1 : Int32)) else some ((-1 : Int32), pI S a0 0 (0 : Int32))))
set_option maxRecDepth 100000 in
theorem kX11_plan_175 {p : Program} {l : Launch} {e : Env} {s : State} {m : MethodId} {av : Array Value} {below : List Frame} {meth : Method} {c : Code} {A : Nat → Prop} {G : Gv} {L : List Nat} {q : (Int32 × MS)} {K23 : Nat → Int32 → Int32 → MS → Option (Int32 × MS)} (hK23 : ∀ (x0 : Nat) (x1 : Int32) (x2 : Int32) (S : MS) (H : Heap) (locs : List Loc) (ls : Array Slot), (x0 < shM.1 ∧ shM.2.1 x0 = 11) → mW G shM L S A s H locs → lv_has ls 5 [(0, .ref (ad L x0)), (1, .int x1), (2, .int x2)] → K23 x0 x1 x2 S = some q → W p l e (rmd (8)) s m av below meth c H locs 0 0 (MQ below (mQ G shM L q.2 (some (.int q.1)) A) av s 0 0 A) (F0 m 23 ls [])) (C : mC p s m av meth c cX11_plan RX11 5 (some .int)) : ∀ (x0 : Nat) (x1 : Int32) (x2 : Int32) (S : MS) (H : Heap) (locs : List Loc) (ls : Array Slot), (x0 < shM.1 ∧ shM.2.1 x0 = 11) → mW G shM L S A s H locs → lv_has ls 5 [(0, .ref (ad L x0)), (1, .int x1), (2, .int x2)] → fX11_plan_175 K23 x0 x1 x2 S = some q → W p l e (rmd (8)) s m av below meth c H locs 0 0 (MQ below (mQ G shM L q.2 (some (.int q.1)) A) av s 0 0 A) (F0 m 175 ls []) := by
  intro x0 x1 x2 S H locs ls hx0 hW hl hf
  unfold fX11_plan_175 at hf
  refine lv_iinc (v := x2 + (1 : Int32)) (lv' := [(2, .int (x2 + (1 : Int32))), (0, .ref (ad L x0)), (1, .int x1)]) C.1 C.2.1 dX11_plan_175 hl (k := 2) rfl (congrArg (fun z => x2 + z) ic_1) (by decide) rfl (fun ls hl => ?_)
  refine lv_goto (tgt := 23) C.1 C.2.1 dX11_plan_178 rfl ?_
  exact hK23 x0 x1 (x2 + (1 : Int32)) _ _ _ _ hx0 hW (lv_sub hl [1, 2, 0] rfl) hf

set_option maxRecDepth 100000 in
theorem kX11_plan_149 {p : Program} {l : Launch} {e : Env} {s : State} {m : MethodId} {av : Array Value} {below : List Frame} {meth : Method} {c : Code} {A : Nat → Prop} {G : Gv} {L : List Nat} {q : (Int32 × MS)} {K23 : Nat → Int32 → Int32 → MS → Option (Int32 × MS)} (hK23 : ∀ (x0 : Nat) (x1 : Int32) (x2 : Int32) (S : MS) (H : Heap) (locs : List Loc) (ls : Array Slot), (x0 < shM.1 ∧ shM.2.1 x0 = 11) → mW G shM L S A s H locs → lv_has ls 5 [(0, .ref (ad L x0)), (1, .int x1), (2, .int x2)] → K23 x0 x1 x2 S = some q → W p l e (rmd (8)) s m av below meth c H locs 0 0 (MQ below (mQ G shM L q.2 (some (.int q.1)) A) av s 0 0 A) (F0 m 23 ls [])) (C : mC p s m av meth c cX11_plan RX11 5 (some .int)) : ∀ (n : Nat) (x0 : Nat) (x1 : Int32) (x2 : Int32) (x4 : Int32) (S : MS) (H : Heap) (locs : List Loc) (ls : Array Slot), (x0 < shM.1 ∧ shM.2.1 x0 = 11) → mW G shM L S A s H locs → lv_has ls 5 [(0, .ref (ad L x0)), (1, .int x1), (2, .int x2), (4, .int x4)] → fX11_plan_149 K23 n x0 x1 x2 x4 S = some q → W p l e (rmd (8)) s m av below meth c H locs 0 0 (MQ below (mQ G shM L q.2 (some (.int q.1)) A) av s 0 0 A) (F0 m 149 ls []) := by
  intro n
  induction n with
  | zero =>
    intro x0 x1 x2 x4 S H locs ls hx0 hW hl hf
    rw [fX11_plan_149] at hf
    cases hf
  | succ n ih =>
    intro x0 x1 x2 x4 S H locs ls hx0 hW hl hf
    rw [fX11_plan_149] at hf
    refine lv_iload C.1 C.2.1 dX11_plan_149 (lv_at hl 3 rfl) ?_
    refine lv_iconst C.1 C.2.1 dX11_plan_151 ic_4 ?_
    refine lv_icmp_ge (tgt := 175) C.1 C.2.1 dX11_plan_152 rfl (fun c1 => ?_) (fun c1 => ?_)
    · have hf := (if_pos c1).symm.trans hf
      exact kX11_plan_175 hK23 C x0 x1 x2 _ _ _ _ hx0 hW (lv_sub hl [0, 1, 2] rfl) hf
    · have hf := (if_neg c1).symm.trans hf
      refine lv_aload_n C.1 C.2.1 dX11_plan_155 rfl (lv_at hl 0 rfl) ?_
      refine m_getr C hW hx0 flX11_135 (by decide) dX11_plan_156 (fun hk2 => ?_)
      refine lv_iload C.1 C.2.1 dX11_plan_159 (lv_at hl 3 rfl) ?_
      refine lv_aload_n C.1 C.2.1 dX11_plan_161 rfl (lv_at hl 0 rfl) ?_
      refine m_getr C hW hx0 flX11_132 (by decide) dX11_plan_162 (fun hk3 => ?_)
      refine lv_iload C.1 C.2.1 dX11_plan_165 (lv_at hl 3 rfl) ?_
      obtain ⟨hb4, hf⟩ := gd hf
      refine m_iald C hW hk3 hb4 dX11_plan_167 ?_
      obtain ⟨hb5, hf⟩ := gd hf
      refine m_iast C hW hk2 hb5 dX11_plan_168 (fun H locs hW => ?_)
      refine lv_iinc (v := x4 + (1 : Int32)) (lv' := [(4, .int (x4 + (1 : Int32))), (0, .ref (ad L x0)), (1, .int x1), (2, .int x2)]) C.1 C.2.1 dX11_plan_169 hl (k := 3) rfl (congrArg (fun z => x4 + z) ic_1) (by decide) rfl (fun ls hl => ?_)
      refine lv_goto (tgt := 149) C.1 C.2.1 dX11_plan_172 rfl ?_
      exact ih x0 x1 x2 (x4 + (1 : Int32)) _ _ _ _ hx0 hW (lv_sub hl [1, 2, 3, 0] rfl) hf

set_option maxRecDepth 100000 in
theorem kX11_plan_106 {p : Program} {l : Launch} {e : Env} {s : State} {m : MethodId} {av : Array Value} {below : List Frame} {meth : Method} {c : Code} {A : Nat → Prop} {G : Gv} {L : List Nat} {q : (Int32 × MS)} {K23 : Nat → Int32 → Int32 → MS → Option (Int32 × MS)} {K80 : Nat → Int32 → Int32 → Int32 → MS → Option (Int32 × MS)} (hK23 : ∀ (x0 : Nat) (x1 : Int32) (x2 : Int32) (S : MS) (H : Heap) (locs : List Loc) (ls : Array Slot), (x0 < shM.1 ∧ shM.2.1 x0 = 11) → mW G shM L S A s H locs → lv_has ls 5 [(0, .ref (ad L x0)), (1, .int x1), (2, .int x2)] → K23 x0 x1 x2 S = some q → W p l e (rmd (8)) s m av below meth c H locs 0 0 (MQ below (mQ G shM L q.2 (some (.int q.1)) A) av s 0 0 A) (F0 m 23 ls [])) (hK80 : ∀ (x0 : Nat) (x1 : Int32) (x2 : Int32) (x3 : Int32) (S : MS) (H : Heap) (locs : List Loc) (ls : Array Slot), (x0 < shM.1 ∧ shM.2.1 x0 = 11) → mW G shM L S A s H locs → lv_has ls 5 [(0, .ref (ad L x0)), (1, .int x1), (2, .int x2), (3, .int x3)] → K80 x0 x1 x2 x3 S = some q → W p l e (rmd (8)) s m av below meth c H locs 0 0 (MQ below (mQ G shM L q.2 (some (.int q.1)) A) av s 0 0 A) (F0 m 80 ls [])) (C : mC p s m av meth c cX11_plan RX11 5 (some .int)) : ∀ (x0 : Nat) (x1 : Int32) (x2 : Int32) (x3 : Int32) (S : MS) (H : Heap) (locs : List Loc) (ls : Array Slot), (x0 < shM.1 ∧ shM.2.1 x0 = 11) → mW G shM L S A s H locs → lv_has ls 5 [(0, .ref (ad L x0)), (1, .int x1), (2, .int x2), (3, .int x3)] → fX11_plan_106 K23 K80 x0 x1 x2 x3 S = some q → W p l e (rmd (8)) s m av below meth c H locs 0 0 (MQ below (mQ G shM L q.2 (some (.int q.1)) A) av s 0 0 A) (F0 m 106 ls []) := by
  intro x0 x1 x2 x3 S H locs ls hx0 hW hl hf
  unfold fX11_plan_106 at hf
  refine lv_aload_n C.1 C.2.1 dX11_plan_106 rfl (lv_at hl 0 rfl) ?_
  refine lv_iconst C.1 C.2.1 dX11_plan_107 ic_1 ?_
  refine lv_iconst C.1 C.2.1 dX11_plan_108 ic_0 ?_
  obtain ⟨q6, h7, hf⟩ := bd hf
  refine m_callV (As := [.int (1 : Int32), .int (0 : Int32)]) (rest := []) C hW hx0 (cX11_passes_ok  hx0 h7) mlX11_465 (by decide) rfl hl.1 rfl (Nat.le_of_ble_eq_true rfl) (Nat.le_of_ble_eq_true rfl) (Nat.le_of_ble_eq_true rfl) dX11_plan_109 (fun H locs hW => ?_)
  refine lv_iinc (v := x3 + (1 : Int32)) (lv' := [(3, .int (x3 + (1 : Int32))), (0, .ref (ad L x0)), (1, .int x1), (2, .int x2)]) C.1 C.2.1 dX11_plan_112 hl (k := 3) rfl (congrArg (fun z => x3 + z) ic_1) (by decide) rfl (fun ls hl => ?_)
  refine lv_goto (tgt := 80) C.1 C.2.1 dX11_plan_115 rfl ?_
  exact hK80 x0 x1 x2 (x3 + (1 : Int32)) _ _ _ _ hx0 hW (lv_sub hl [1, 2, 3, 0] rfl) hf

set_option maxRecDepth 100000 in
theorem kX11_plan_80 {p : Program} {l : Launch} {e : Env} {s : State} {m : MethodId} {av : Array Value} {below : List Frame} {meth : Method} {c : Code} {A : Nat → Prop} {G : Gv} {L : List Nat} {q : (Int32 × MS)} {K23 : Nat → Int32 → Int32 → MS → Option (Int32 × MS)} (hK23 : ∀ (x0 : Nat) (x1 : Int32) (x2 : Int32) (S : MS) (H : Heap) (locs : List Loc) (ls : Array Slot), (x0 < shM.1 ∧ shM.2.1 x0 = 11) → mW G shM L S A s H locs → lv_has ls 5 [(0, .ref (ad L x0)), (1, .int x1), (2, .int x2)] → K23 x0 x1 x2 S = some q → W p l e (rmd (8)) s m av below meth c H locs 0 0 (MQ below (mQ G shM L q.2 (some (.int q.1)) A) av s 0 0 A) (F0 m 23 ls [])) (C : mC p s m av meth c cX11_plan RX11 5 (some .int)) : ∀ (n : Nat) (x0 : Nat) (x1 : Int32) (x2 : Int32) (x3 : Int32) (S : MS) (H : Heap) (locs : List Loc) (ls : Array Slot), (x0 < shM.1 ∧ shM.2.1 x0 = 11) → mW G shM L S A s H locs → lv_has ls 5 [(0, .ref (ad L x0)), (1, .int x1), (2, .int x2), (3, .int x3)] → fX11_plan_80 K23 n x0 x1 x2 x3 S = some q → W p l e (rmd (8)) s m av below meth c H locs 0 0 (MQ below (mQ G shM L q.2 (some (.int q.1)) A) av s 0 0 A) (F0 m 80 ls []) := by
  intro n
  induction n with
  | zero =>
    intro x0 x1 x2 x3 S H locs ls hx0 hW hl hf
    rw [fX11_plan_80] at hf
    cases hf
  | succ n ih =>
    intro x0 x1 x2 x3 S H locs ls hx0 hW hl hf
    rw [fX11_plan_80] at hf
    refine lv_iload_n C.1 C.2.1 dX11_plan_80 rfl (lv_at hl 3 rfl) ?_
    refine lv_iconst C.1 C.2.1 dX11_plan_81 ic_4 ?_
    refine lv_icmp_ge (tgt := 118) C.1 C.2.1 dX11_plan_82 rfl (fun c8 => ?_) (fun c8 => ?_)
    · have hf := (if_pos c8).symm.trans hf
      refine lv_aload_n C.1 C.2.1 dX11_plan_118 rfl (lv_at hl 0 rfl) ?_
      refine lv_iconst C.1 C.2.1 dX11_plan_119 ic_1 ?_
      obtain ⟨q9, h10, hf⟩ := bd hf
      refine m_callV (As := [.int (1 : Int32)]) (rest := []) C hW hx0 (cX11_worthOf_ok  hx0 h10) mlX11_497 (by decide) rfl hl.1 rfl (Nat.le_of_ble_eq_true rfl) (Nat.le_of_ble_eq_true rfl) (Nat.le_of_ble_eq_true rfl) dX11_plan_120 (fun H locs hW => ?_)
      refine lv_aload_n C.1 C.2.1 dX11_plan_123 rfl (lv_at hl 0 rfl) ?_
      refine lv_iconst C.1 C.2.1 dX11_plan_124 ic_0 ?_
      obtain ⟨q11, h12, hf⟩ := bd hf
      refine m_callV (As := [.int (0 : Int32)]) (rest := [.int q9]) C hW hx0 (cX11_worthOf_ok  hx0 h12) mlX11_497 (by decide) rfl hl.1 rfl (Nat.le_of_ble_eq_true rfl) (Nat.le_of_ble_eq_true rfl) (Nat.le_of_ble_eq_true rfl) dX11_plan_125 (fun H locs hW => ?_)
      refine lv_isub C.1 C.2.1 dX11_plan_128 ?_
      refine lv_istore_n (lv' := [(3, .int (q9 - q11)), (0, .ref (ad L x0)), (1, .int x1), (2, .int x2)]) C.1 C.2.1 dX11_plan_129 rfl hl (by decide) rfl (fun ls hl => ?_)
      refine lv_iload_n C.1 C.2.1 dX11_plan_130 rfl (lv_at hl 0 rfl) ?_
      refine lv_aload_n C.1 C.2.1 dX11_plan_131 rfl (lv_at hl 1 rfl) ?_
      refine m_geti C hW hx0 flX11_506 dX11_plan_132 ?_
      refine lv_icmp_gt (tgt := 141) C.1 C.2.1 dX11_plan_135 rfl (fun c13 => ?_) (fun c13 => ?_)
      · have hf := (if_pos c13).symm.trans hf
        refine lv_aload_n C.1 C.2.1 dX11_plan_141 rfl (lv_at hl 1 rfl) ?_
        refine lv_iload_n C.1 C.2.1 dX11_plan_142 rfl (lv_at hl 0 rfl) ?_
        refine m_puti C hW hx0 fpX11_506 dX11_plan_143 (fun H locs hW => ?_)
        refine lv_iconst C.1 C.2.1 dX11_plan_146 ic_0 ?_
        refine lv_istore (lv' := [(4, .int (0 : Int32)), (3, .int (q9 - q11)), (0, .ref (ad L x0)), (1, .int x1), (2, .int x2)]) C.1 C.2.1 dX11_plan_147 hl (by decide) rfl (fun ls hl => ?_)
        exact kX11_plan_149 hK23 C 1000 x0 x1 x2 (0 : Int32) _ _ _ _ hx0 hW (lv_sub hl [2, 3, 4, 0] rfl) hf
      · have hf := (if_neg c13).symm.trans hf
        refine lv_goto (tgt := 175) C.1 C.2.1 dX11_plan_138 rfl ?_
        exact kX11_plan_175 hK23 C x0 x1 x2 _ _ _ _ hx0 hW (lv_sub hl [1, 2, 3] rfl) hf
    · have hf := (if_neg c8).symm.trans hf
      refine lv_aload_n C.1 C.2.1 dX11_plan_85 rfl (lv_at hl 0 rfl) ?_
      refine m_getr C hW hx0 flX11_132 (by decide) dX11_plan_86 (fun hk14 => ?_)
      refine lv_iload_n C.1 C.2.1 dX11_plan_89 rfl (lv_at hl 3 rfl) ?_
      obtain ⟨hb15, hf⟩ := gd hf
      refine m_iald C hW hk14 hb15 dX11_plan_90 ?_
      refine lv_iconst C.1 C.2.1 dX11_plan_91 ic_4 ?_
      refine lv_icmp_ge (tgt := 106) C.1 C.2.1 dX11_plan_92 rfl (fun c16 => ?_) (fun c16 => ?_)
      · have hf := (if_pos c16).symm.trans hf
        exact kX11_plan_106 hK23 ih C x0 x1 x2 x3 _ _ _ _ hx0 hW (lv_sub hl [0, 1, 2, 3] rfl) hf
      · have hf := (if_neg c16).symm.trans hf
        refine lv_aload_n C.1 C.2.1 dX11_plan_95 rfl (lv_at hl 0 rfl) ?_
        refine lv_iconst C.1 C.2.1 dX11_plan_96 ic_1 ?_
        refine lv_aload_n C.1 C.2.1 dX11_plan_97 rfl (lv_at hl 0 rfl) ?_
        refine m_getr C hW hx0 flX11_132 (by decide) dX11_plan_98 (fun hk17 => ?_)
        refine lv_iload_n C.1 C.2.1 dX11_plan_101 rfl (lv_at hl 3 rfl) ?_
        obtain ⟨hb18, hf⟩ := gd hf
        refine m_iald C hW hk17 hb18 dX11_plan_102 ?_
        obtain ⟨q19, h20, hf⟩ := bd hf
        refine m_callV (As := [.int (1 : Int32), .int (gI S (gR S x0 63) x3.toNatClampNeg)]) (rest := []) C hW hx0 (cX11_triesStep_ok  hx0 h20) mlX11_452 (by decide) rfl hl.1 rfl (Nat.le_of_ble_eq_true rfl) (Nat.le_of_ble_eq_true rfl) (Nat.le_of_ble_eq_true rfl) dX11_plan_103 (fun H locs hW => ?_)
        exact kX11_plan_106 hK23 ih C x0 x1 x2 x3 _ _ _ _ hx0 hW (lv_sub hl [0, 1, 2, 3] rfl) hf

set_option maxRecDepth 100000 in
theorem kX11_plan_72 {p : Program} {l : Launch} {e : Env} {s : State} {m : MethodId} {av : Array Value} {below : List Frame} {meth : Method} {c : Code} {A : Nat → Prop} {G : Gv} {L : List Nat} {q : (Int32 × MS)} {K23 : Nat → Int32 → Int32 → MS → Option (Int32 × MS)} (hK23 : ∀ (x0 : Nat) (x1 : Int32) (x2 : Int32) (S : MS) (H : Heap) (locs : List Loc) (ls : Array Slot), (x0 < shM.1 ∧ shM.2.1 x0 = 11) → mW G shM L S A s H locs → lv_has ls 5 [(0, .ref (ad L x0)), (1, .int x1), (2, .int x2)] → K23 x0 x1 x2 S = some q → W p l e (rmd (8)) s m av below meth c H locs 0 0 (MQ below (mQ G shM L q.2 (some (.int q.1)) A) av s 0 0 A) (F0 m 23 ls [])) (C : mC p s m av meth c cX11_plan RX11 5 (some .int)) : ∀ (x0 : Nat) (x1 : Int32) (x2 : Int32) (S : MS) (H : Heap) (locs : List Loc) (ls : Array Slot), (x0 < shM.1 ∧ shM.2.1 x0 = 11) → mW G shM L S A s H locs → lv_has ls 5 [(0, .ref (ad L x0)), (1, .int x1), (2, .int x2)] → fX11_plan_72 K23 x0 x1 x2 S = some q → W p l e (rmd (8)) s m av below meth c H locs 0 0 (MQ below (mQ G shM L q.2 (some (.int q.1)) A) av s 0 0 A) (F0 m 72 ls []) := by
  intro x0 x1 x2 S H locs ls hx0 hW hl hf
  unfold fX11_plan_72 at hf
  refine lv_aload_n C.1 C.2.1 dX11_plan_72 rfl (lv_at hl 0 rfl) ?_
  refine lv_iconst C.1 C.2.1 dX11_plan_73 ic_1 ?_
  refine lv_iconst C.1 C.2.1 dX11_plan_74 ic_0 ?_
  obtain ⟨q21, h22, hf⟩ := bd hf
  refine m_callV (As := [.int (1 : Int32), .int (0 : Int32)]) (rest := []) C hW hx0 (cX11_copies_ok  hx0 h22) mlX11_488 (by decide) rfl hl.1 rfl (Nat.le_of_ble_eq_true rfl) (Nat.le_of_ble_eq_true rfl) (Nat.le_of_ble_eq_true rfl) dX11_plan_75 (fun H locs hW => ?_)
  refine lv_iconst C.1 C.2.1 dX11_plan_78 ic_0 ?_
  refine lv_istore_n (lv' := [(3, .int (0 : Int32)), (0, .ref (ad L x0)), (1, .int x1), (2, .int x2)]) C.1 C.2.1 dX11_plan_79 rfl hl (by decide) rfl (fun ls hl => ?_)
  exact kX11_plan_80 hK23 C 1000 x0 x1 x2 (0 : Int32) _ _ _ _ hx0 hW (lv_sub hl [1, 2, 3, 0] rfl) hf

set_option maxRecDepth 100000 in
theorem kX11_plan_52 {p : Program} {l : Launch} {e : Env} {s : State} {m : MethodId} {av : Array Value} {below : List Frame} {meth : Method} {c : Code} {A : Nat → Prop} {G : Gv} {L : List Nat} {q : (Int32 × MS)} {K23 : Nat → Int32 → Int32 → MS → Option (Int32 × MS)} (hK23 : ∀ (x0 : Nat) (x1 : Int32) (x2 : Int32) (S : MS) (H : Heap) (locs : List Loc) (ls : Array Slot), (x0 < shM.1 ∧ shM.2.1 x0 = 11) → mW G shM L S A s H locs → lv_has ls 5 [(0, .ref (ad L x0)), (1, .int x1), (2, .int x2)] → K23 x0 x1 x2 S = some q → W p l e (rmd (8)) s m av below meth c H locs 0 0 (MQ below (mQ G shM L q.2 (some (.int q.1)) A) av s 0 0 A) (F0 m 23 ls [])) (C : mC p s m av meth c cX11_plan RX11 5 (some .int)) : ∀ (x0 : Nat) (x1 : Int32) (x2 : Int32) (S : MS) (H : Heap) (locs : List Loc) (ls : Array Slot), (x0 < shM.1 ∧ shM.2.1 x0 = 11) → mW G shM L S A s H locs → lv_has ls 5 [(0, .ref (ad L x0)), (1, .int x1), (2, .int x2)] → fX11_plan_52 K23 x0 x1 x2 S = some q → W p l e (rmd (8)) s m av below meth c H locs 0 0 (MQ below (mQ G shM L q.2 (some (.int q.1)) A) av s 0 0 A) (F0 m 52 ls []) := by
  intro x0 x1 x2 S H locs ls hx0 hW hl hf
  unfold fX11_plan_52 at hf
  refine lv_aload_n C.1 C.2.1 dX11_plan_52 rfl (lv_at hl 0 rfl) ?_
  refine m_getr C hW hx0 flX11_132 (by decide) dX11_plan_53 (fun hk23 => ?_)
  refine lv_iconst C.1 C.2.1 dX11_plan_56 ic_2 ?_
  refine lv_iload_n C.1 C.2.1 dX11_plan_57 rfl (lv_at hl 2 rfl) ?_
  refine lv_iconst C.1 C.2.1 dX11_plan_58 ic_5 ?_
  refine lv_idiv C.1 C.2.1 dX11_plan_59 (by decide) ?_
  refine lv_iconst C.1 C.2.1 dX11_plan_60 ic_5 ?_
  refine lv_irem C.1 C.2.1 dX11_plan_61 (by decide) ?_
  obtain ⟨hb24, hf⟩ := gd hf
  refine m_iast C hW hk23 hb24 dX11_plan_62 (fun H locs hW => ?_)
  refine lv_aload_n C.1 C.2.1 dX11_plan_63 rfl (lv_at hl 0 rfl) ?_
  refine m_getr C hW hx0 flX11_132 (by decide) dX11_plan_64 (fun hk25 => ?_)
  refine lv_iconst C.1 C.2.1 dX11_plan_67 ic_3 ?_
  refine lv_iload_n C.1 C.2.1 dX11_plan_68 rfl (lv_at hl 2 rfl) ?_
  refine lv_iconst C.1 C.2.1 dX11_plan_69 ic_5 ?_
  refine lv_irem C.1 C.2.1 dX11_plan_70 (by decide) ?_
  obtain ⟨hb26, hf⟩ := gd hf
  refine m_iast C hW hk25 hb26 dX11_plan_71 (fun H locs hW => ?_)
  exact kX11_plan_72 hK23 C x0 x1 x2 _ _ _ _ hx0 hW (lv_sub hl [0, 1, 2] rfl) hf

set_option maxRecDepth 100000 in
theorem kX11_plan_23 {p : Program} {l : Launch} {e : Env} {s : State} {m : MethodId} {av : Array Value} {below : List Frame} {meth : Method} {c : Code} {A : Nat → Prop} {G : Gv} {L : List Nat} {q : (Int32 × MS)}  (C : mC p s m av meth c cX11_plan RX11 5 (some .int)) : ∀ (n : Nat) (x0 : Nat) (x1 : Int32) (x2 : Int32) (S : MS) (H : Heap) (locs : List Loc) (ls : Array Slot), (x0 < shM.1 ∧ shM.2.1 x0 = 11) → mW G shM L S A s H locs → lv_has ls 5 [(0, .ref (ad L x0)), (1, .int x1), (2, .int x2)] → fX11_plan_23  n x0 x1 x2 S = some q → W p l e (rmd (8)) s m av below meth c H locs 0 0 (MQ below (mQ G shM L q.2 (some (.int q.1)) A) av s 0 0 A) (F0 m 23 ls []) := by
  intro n
  induction n with
  | zero =>
    intro x0 x1 x2 S H locs ls hx0 hW hl hf
    rw [fX11_plan_23] at hf
    cases hf
  | succ n ih =>
    intro x0 x1 x2 S H locs ls hx0 hW hl hf
    rw [fX11_plan_23] at hf
    refine lv_iload_n C.1 C.2.1 dX11_plan_23 rfl (lv_at hl 2 rfl) ?_
    refine lv_sipush C.1 C.2.1 dX11_plan_24 sp_625 ?_
    refine lv_icmp_ge (tgt := 181) C.1 C.2.1 dX11_plan_27 rfl (fun c27 => ?_) (fun c27 => ?_)
    · have hf := (if_pos c27).symm.trans hf
      refine lv_iload_n C.1 C.2.1 dX11_plan_181 rfl (lv_at hl 1 rfl) ?_
      refine lv_iconst C.1 C.2.1 dX11_plan_182 ic_4 ?_
      refine lv_icmp_ne (tgt := 193) C.1 C.2.1 dX11_plan_183 rfl (fun c28 => ?_) (fun c28 => ?_)
      · have hf := (if_neg c28).symm.trans hf
        refine lv_aload_n C.1 C.2.1 dX11_plan_193 rfl (lv_at hl 0 rfl) ?_
        refine m_getr C hW hx0 flX11_135 (by decide) dX11_plan_194 (fun hk29 => ?_)
        refine lv_iload_n C.1 C.2.1 dX11_plan_197 rfl (lv_at hl 1 rfl) ?_
        obtain ⟨hb30, hf⟩ := gd hf
        refine m_iald C hW hk29 hb30 dX11_plan_198 ?_
        cases hf
        exact m_iret C hW dX11_plan_199
      · have hf := (if_pos c28).symm.trans hf
        refine lv_aload_n C.1 C.2.1 dX11_plan_186 rfl (lv_at hl 0 rfl) ?_
        refine m_geti C hW hx0 flX11_506 dX11_plan_187 ?_
        refine lv_goto (tgt := 199) C.1 C.2.1 dX11_plan_190 rfl ?_
        cases hf
        exact m_iret C hW dX11_plan_199
    · have hf := (if_neg c27).symm.trans hf
      refine lv_aload_n C.1 C.2.1 dX11_plan_30 rfl (lv_at hl 0 rfl) ?_
      refine m_getr C hW hx0 flX11_132 (by decide) dX11_plan_31 (fun hk31 => ?_)
      refine lv_iconst C.1 C.2.1 dX11_plan_34 ic_0 ?_
      refine lv_iload_n C.1 C.2.1 dX11_plan_35 rfl (lv_at hl 2 rfl) ?_
      refine lv_bipush C.1 C.2.1 dX11_plan_36 bp_125 ?_
      refine lv_idiv C.1 C.2.1 dX11_plan_38 (by decide) ?_
      obtain ⟨hb32, hf⟩ := gd hf
      refine m_iast C hW hk31 hb32 dX11_plan_39 (fun H locs hW => ?_)
      refine lv_aload_n C.1 C.2.1 dX11_plan_40 rfl (lv_at hl 0 rfl) ?_
      refine m_getr C hW hx0 flX11_132 (by decide) dX11_plan_41 (fun hk33 => ?_)
      refine lv_iconst C.1 C.2.1 dX11_plan_44 ic_1 ?_
      refine lv_iload_n C.1 C.2.1 dX11_plan_45 rfl (lv_at hl 2 rfl) ?_
      refine lv_bipush C.1 C.2.1 dX11_plan_46 bp_25 ?_
      refine lv_idiv C.1 C.2.1 dX11_plan_48 (by decide) ?_
      refine lv_iconst C.1 C.2.1 dX11_plan_49 ic_5 ?_
      refine lv_irem C.1 C.2.1 dX11_plan_50 (by decide) ?_
      obtain ⟨hb34, hf⟩ := gd hf
      refine m_iast C hW hk33 hb34 dX11_plan_51 (fun H locs hW => ?_)
      exact kX11_plan_52 ih C x0 x1 x2 _ _ _ _ hx0 hW (lv_sub hl [0, 1, 2] rfl) hf

set_option maxRecDepth 100000 in
theorem cX11_plan_ok {l : Launch} {G : Gv} {L : List Nat} {S : MS} {a0 : Nat} {a1 : Int32} {q : (Int32 × MS)} (ha0 : a0 < shM.1 ∧ shM.2.1 a0 = 11) (hf : fX11_plan a0 a1 S = some q) : Mt l yX11_plan cX11_plan 5 (some .int) (8) G shM L S [.ref (ad L a0), .int a1] (some (.int q.1)) q.2 := by
  refine m_enter (lv := [(0, .ref (ad L a0)), (1, .int a1)]) (plainFor_of_name (by decide)) (Nat.le_of_ble_eq_true rfl) rfl ?_
  intro p e s m below meth c A ls C hW hl
  unfold fX11_plan at hf
  refine lv_aload_n C.1 C.2.1 dX11_plan_0 rfl (lv_at hl 0 rfl) ?_
  refine lv_iconst C.1 C.2.1 dX11_plan_1 ic_0 ?_
  refine m_puti C hW ha0 fpX11_163 dX11_plan_2 (fun H locs hW => ?_)
  refine lv_iload_n C.1 C.2.1 dX11_plan_5 rfl (lv_at hl 1 rfl) ?_
  refine lv_if_lt (tgt := 14) C.1 C.2.1 dX11_plan_6 rfl (fun c35 => ?_) (fun c35 => ?_)
  · have hf := (if_pos c35).symm.trans hf
    refine lv_iconst C.1 C.2.1 dX11_plan_14 ic_m1 ?_
    cases hf
    exact m_iret C hW dX11_plan_15
  · have hf := (if_neg c35).symm.trans hf
    refine lv_iload_n C.1 C.2.1 dX11_plan_9 rfl (lv_at hl 1 rfl) ?_
    refine lv_iconst C.1 C.2.1 dX11_plan_10 ic_4 ?_
    refine lv_icmp_le (tgt := 16) C.1 C.2.1 dX11_plan_11 rfl (fun c36 => ?_) (fun c36 => ?_)
    · have hf := (if_pos c36).symm.trans hf
      refine lv_aload_n C.1 C.2.1 dX11_plan_16 rfl (lv_at hl 0 rfl) ?_
      refine lv_iconst C.1 C.2.1 dX11_plan_17 ic_m1 ?_
      refine m_puti C hW ha0 fpX11_506 dX11_plan_18 (fun H locs hW => ?_)
      refine lv_iconst C.1 C.2.1 dX11_plan_21 ic_0 ?_
      refine lv_istore_n (lv' := [(2, .int (0 : Int32)), (0, .ref (ad L a0)), (1, .int a1)]) C.1 C.2.1 dX11_plan_22 rfl hl (by decide) rfl (fun ls hl => ?_)
      exact kX11_plan_23  C 1000 a0 a1 (0 : Int32) _ _ _ _ ha0 hW (lv_sub hl [1, 2, 0] rfl) hf
    · have hf := (if_neg c36).symm.trans hf
      refine lv_iconst C.1 C.2.1 dX11_plan_14 ic_m1 ?_
      cases hf
      exact m_iret C hW dX11_plan_15

def fX11_fitsHome_22  : Nat → Nat → Int32 → Int32 → MS → Option (Int32 × MS)
  | 0, _, _, _, _ => none
  | n + 1, x0, x3, x4, S => (if x3 < x4 then some ((1 : Int32), S) else (fX11_passes  x0 (1 : Int32) (0 : Int32) S).bind fun q2 => (fX11_isSo  x0 x4 q2).bind fun q4 => (if q4 = (0 : Int32) then some ((0 : Int32), q2) else (fX11_fitsHome_22  n) x0 x3 (x4 + (1 : Int32)) q2))
def fX11_fitsHome_19  (x0 : Nat) (x3 : Int32) (S : MS) : Option (Int32 × MS) := fX11_fitsHome_22  1000 x0 x3 (1 : Int32) S
def fX11_fitsHome (a0 : Nat) (a1 : Int32) (a2 : Int32) (a3 : Int32) (S : MS) : Option (Int32 × MS) := (fX11_starts  a0 (1 : Int32) S).bind fun q7 => (if bnd (1 : Int32) (lnM (gR q7 a0 46)) = true then (if bnd (1 : Int32) (lnM (gR (pI q7 (gR q7 a0 46) ((1 : Int32).toNatClampNeg) a1) a0 47)) = true then fX11_fitsHome_19  a0 a3 (pI (pI q7 (gR q7 a0 46) ((1 : Int32).toNatClampNeg) a1) (gR (pI q7 (gR q7 a0 46) ((1 : Int32).toNatClampNeg) a1) a0 47) ((1 : Int32).toNatClampNeg) a2) else none) else none)
set_option maxRecDepth 100000 in
theorem kX11_fitsHome_22 {p : Program} {l : Launch} {e : Env} {s : State} {m : MethodId} {av : Array Value} {below : List Frame} {meth : Method} {c : Code} {A : Nat → Prop} {G : Gv} {L : List Nat} {q : (Int32 × MS)}  (C : mC p s m av meth c cX11_fitsHome RX11 5 (some .boolean)) : ∀ (n : Nat) (x0 : Nat) (x3 : Int32) (x4 : Int32) (S : MS) (H : Heap) (locs : List Loc) (ls : Array Slot), (x0 < shM.1 ∧ shM.2.1 x0 = 11) → mW G shM L S A s H locs → lv_has ls 5 [(0, .ref (ad L x0)), (3, .int x3), (4, .int x4)] → fX11_fitsHome_22  n x0 x3 x4 S = some q → W p l e (rmd (8)) s m av below meth c H locs 0 0 (MQ below (mQ G shM L q.2 (some (.int q.1)) A) av s 0 0 A) (F0 m 22 ls []) := by
  intro n
  induction n with
  | zero =>
    intro x0 x3 x4 S H locs ls hx0 hW hl hf
    rw [fX11_fitsHome_22] at hf
    cases hf
  | succ n ih =>
    intro x0 x3 x4 S H locs ls hx0 hW hl hf
    rw [fX11_fitsHome_22] at hf
    refine lv_iload C.1 C.2.1 dX11_fitsHome_22 (lv_at hl 2 rfl) ?_
    refine lv_iload_n C.1 C.2.1 dX11_fitsHome_24 rfl (lv_at hl 1 rfl) ?_
    refine lv_icmp_gt (tgt := 51) C.1 C.2.1 dX11_fitsHome_25 rfl (fun c1 => ?_) (fun c1 => ?_)
    · have hf := (if_pos c1).symm.trans hf
      refine lv_iconst C.1 C.2.1 dX11_fitsHome_51 ic_1 ?_
      cases hf
      exact m_zret C hW rfl dX11_fitsHome_52
    · have hf := (if_neg c1).symm.trans hf
      refine lv_aload_n C.1 C.2.1 dX11_fitsHome_28 rfl (lv_at hl 0 rfl) ?_
      refine lv_iconst C.1 C.2.1 dX11_fitsHome_29 ic_1 ?_
      refine lv_iconst C.1 C.2.1 dX11_fitsHome_30 ic_0 ?_
      obtain ⟨q2, h3, hf⟩ := bd hf
      refine m_callV (As := [.int (1 : Int32), .int (0 : Int32)]) (rest := []) C hW hx0 (cX11_passes_ok  hx0 h3) mlX11_465 (by decide) rfl hl.1 rfl (Nat.le_of_ble_eq_true rfl) (Nat.le_of_ble_eq_true rfl) (Nat.le_of_ble_eq_true rfl) dX11_fitsHome_31 (fun H locs hW => ?_)
      refine lv_aload_n C.1 C.2.1 dX11_fitsHome_34 rfl (lv_at hl 0 rfl) ?_
      refine lv_iload C.1 C.2.1 dX11_fitsHome_35 (lv_at hl 2 rfl) ?_
      obtain ⟨q4, h5, hf⟩ := bd hf
      refine m_callV (As := [.int x4]) (rest := []) C hW hx0 (cX11_isSo_ok  hx0 h5) mlX11_532 (by decide) rfl hl.1 rfl (Nat.le_of_ble_eq_true rfl) (Nat.le_of_ble_eq_true rfl) (Nat.le_of_ble_eq_true rfl) dX11_fitsHome_37 (fun H locs hW => ?_)
      refine lv_if_ne (tgt := 45) C.1 C.2.1 dX11_fitsHome_40 rfl (fun c6 => ?_) (fun c6 => ?_)
      · have hf := (if_neg c6).symm.trans hf
        refine lv_iinc (v := x4 + (1 : Int32)) (lv' := [(4, .int (x4 + (1 : Int32))), (0, .ref (ad L x0)), (3, .int x3)]) C.1 C.2.1 dX11_fitsHome_45 hl (k := 2) rfl (congrArg (fun z => x4 + z) ic_1) (by decide) rfl (fun ls hl => ?_)
        refine lv_goto (tgt := 22) C.1 C.2.1 dX11_fitsHome_48 rfl ?_
        exact ih x0 x3 (x4 + (1 : Int32)) _ _ _ _ hx0 hW (lv_sub hl [1, 2, 0] rfl) hf
      · have hf := (if_pos c6).symm.trans hf
        refine lv_iconst C.1 C.2.1 dX11_fitsHome_43 ic_0 ?_
        cases hf
        exact m_zret C hW rfl dX11_fitsHome_44

set_option maxRecDepth 100000 in
theorem kX11_fitsHome_19 {p : Program} {l : Launch} {e : Env} {s : State} {m : MethodId} {av : Array Value} {below : List Frame} {meth : Method} {c : Code} {A : Nat → Prop} {G : Gv} {L : List Nat} {q : (Int32 × MS)}  (C : mC p s m av meth c cX11_fitsHome RX11 5 (some .boolean)) : ∀ (x0 : Nat) (x3 : Int32) (S : MS) (H : Heap) (locs : List Loc) (ls : Array Slot), (x0 < shM.1 ∧ shM.2.1 x0 = 11) → mW G shM L S A s H locs → lv_has ls 5 [(0, .ref (ad L x0)), (3, .int x3)] → fX11_fitsHome_19  x0 x3 S = some q → W p l e (rmd (8)) s m av below meth c H locs 0 0 (MQ below (mQ G shM L q.2 (some (.int q.1)) A) av s 0 0 A) (F0 m 19 ls []) := by
  intro x0 x3 S H locs ls hx0 hW hl hf
  unfold fX11_fitsHome_19 at hf
  refine lv_iconst C.1 C.2.1 dX11_fitsHome_19 ic_1 ?_
  refine lv_istore (lv' := [(4, .int (1 : Int32)), (0, .ref (ad L x0)), (3, .int x3)]) C.1 C.2.1 dX11_fitsHome_20 hl (by decide) rfl (fun ls hl => ?_)
  exact kX11_fitsHome_22  C 1000 x0 x3 (1 : Int32) _ _ _ _ hx0 hW (lv_sub hl [1, 2, 0] rfl) hf

set_option maxRecDepth 100000 in
theorem cX11_fitsHome_ok {l : Launch} {G : Gv} {L : List Nat} {S : MS} {a0 : Nat} {a1 : Int32} {a2 : Int32} {a3 : Int32} {q : (Int32 × MS)} (ha0 : a0 < shM.1 ∧ shM.2.1 a0 = 11) (hf : fX11_fitsHome a0 a1 a2 a3 S = some q) : Mt l yX11_fitsHome cX11_fitsHome 5 (some .boolean) (8) G shM L S [.ref (ad L a0), .int a1, .int a2, .int a3] (some (.int q.1)) q.2 := by
  refine m_enter (lv := [(0, .ref (ad L a0)), (1, .int a1), (2, .int a2), (3, .int a3)]) (plainFor_of_name (by decide)) (Nat.le_of_ble_eq_true rfl) rfl ?_
  intro p e s m below meth c A ls C hW hl
  unfold fX11_fitsHome at hf
  refine lv_aload_n C.1 C.2.1 dX11_fitsHome_0 rfl (lv_at hl 0 rfl) ?_
  refine lv_iconst C.1 C.2.1 dX11_fitsHome_1 ic_1 ?_
  obtain ⟨q7, h8, hf⟩ := bd hf
  refine m_callV (As := [.int (1 : Int32)]) (rest := []) C hW ha0 (cX11_starts_ok  ha0 h8) mlX11_358 (by decide) rfl hl.1 rfl (Nat.le_of_ble_eq_true rfl) (Nat.le_of_ble_eq_true rfl) (Nat.le_of_ble_eq_true rfl) dX11_fitsHome_2 (fun H locs hW => ?_)
  refine lv_aload_n C.1 C.2.1 dX11_fitsHome_5 rfl (lv_at hl 0 rfl) ?_
  refine m_getr C hW ha0 flX11_102 (by decide) dX11_fitsHome_6 (fun hk9 => ?_)
  refine lv_iconst C.1 C.2.1 dX11_fitsHome_9 ic_1 ?_
  refine lv_iload_n C.1 C.2.1 dX11_fitsHome_10 rfl (lv_at hl 1 rfl) ?_
  obtain ⟨hb10, hf⟩ := gd hf
  refine m_iast C hW hk9 hb10 dX11_fitsHome_11 (fun H locs hW => ?_)
  refine lv_aload_n C.1 C.2.1 dX11_fitsHome_12 rfl (lv_at hl 0 rfl) ?_
  refine m_getr C hW ha0 flX11_105 (by decide) dX11_fitsHome_13 (fun hk11 => ?_)
  refine lv_iconst C.1 C.2.1 dX11_fitsHome_16 ic_1 ?_
  refine lv_iload_n C.1 C.2.1 dX11_fitsHome_17 rfl (lv_at hl 2 rfl) ?_
  obtain ⟨hb12, hf⟩ := gd hf
  refine m_iast C hW hk11 hb12 dX11_fitsHome_18 (fun H locs hW => ?_)
  exact kX11_fitsHome_19  C a0 a3 _ _ _ _ ha0 hW (lv_sub hl [0, 3] rfl) hf

def fX11_chance_111 (K41 : Nat → Int32 → Int32 → Int32 → Int32 → Int32 → MS → Option (Int32 × MS)) (x0 : Nat) (x2 : Int32) (x3 : Int32) (x4 : Int32) (x6 : Int32) (y0 : Int32) (y1 : Int32) (S : MS) : Option (Int32 × MS) := K41 x0 x2 x3 x4 (y0 + y1) (x6 + (1 : Int32)) S
def fX11_chance_65 (K41 : Nat → Int32 → Int32 → Int32 → Int32 → Int32 → MS → Option (Int32 × MS)) : Nat → Nat → Int32 → Int32 → Int32 → Int32 → Int32 → MS → Option (Int32 × MS)
  | 0, _, _, _, _, _, _, _ => none
  | n + 1, x0, x2, x3, x5, x6, x7, S => (if x2 ≤ x7 then (if bnd (1 : Int32) (lnM (gR S x0 44)) = true then (if bnd (1 : Int32) (lnM (gR S x0 51)) = true then (fX11_bitsOf  (gI S (gR S x0 51) (1 : Int32).toNatClampNeg) S).bind fun q6 => (if q6 < x3 then fX11_chance_111 K41 x0 x2 x3 (gI S (gR S x0 44) (1 : Int32).toNatClampNeg) x6 x5 (0 : Int32) S else fX11_chance_111 K41 x0 x2 x3 (gI S (gR S x0 44) (1 : Int32).toNatClampNeg) x6 x5 (1 : Int32) S) else none) else none) else (fX11_passes  x0 (1 : Int32) (1 : Int32) S).bind fun q9 => (fX11_chance_65 K41 n) x0 x2 x3 x5 x6 (x7 + (1 : Int32)) q9)
def fX11_chance_41  : Nat → Nat → Int32 → Int32 → Int32 → Int32 → Int32 → MS → Option (Int32 × MS)
  | 0, _, _, _, _, _, _, _ => none
  | n + 1, x0, x2, x3, x4, x5, x6, S => (if (10 : Int32) ≤ x6 then some (x5, S) else (fX11_copies  x0 (1 : Int32) (0 : Int32) S).bind fun q12 => (if bnd (1 : Int32) (lnM (gR q12 x0 44)) = true then fX11_chance_65 (fX11_chance_41  n) 1000 x0 x2 x3 x5 x6 (0 : Int32) (pI q12 (gR q12 x0 44) ((1 : Int32).toNatClampNeg) x4) else none))
def fX11_chance (a0 : Nat) (a1 : Int32) (a2 : Int32) (a3 : Int32) (S : MS) : Option (Int32 × MS) := (if a1 < (0 : Int32) then some ((-1 : Int32), pI S a0 0 (0 : Int32)) else (if a2 < (1 : Int32) then some ((-1 : Int32), pI S a0 0 (0 : Int32)) else (if (99 : Int32) < a2 then some ((-1 : Int32), pI S a0 0 (0 : Int32)) else (if a3 < (0 : Int32) then some ((-1 : Int32), pI S a0 0 (0 : Int32)) else (if a3 ≤ (8 : Int32) then fX11_chance_41  1000 a0 a2 a3 a1 (0 : Int32) (0 : Int32) (pI S a0 0 (0 : Int32)) else some ((-1 : Int32), pI S a0 0 (0 : Int32)))))))
set_option maxRecDepth 100000 in
theorem kX11_chance_111 {p : Program} {l : Launch} {e : Env} {s : State} {m : MethodId} {av : Array Value} {below : List Frame} {meth : Method} {c : Code} {A : Nat → Prop} {G : Gv} {L : List Nat} {q : (Int32 × MS)} {K41 : Nat → Int32 → Int32 → Int32 → Int32 → Int32 → MS → Option (Int32 × MS)} (hK41 : ∀ (x0 : Nat) (x2 : Int32) (x3 : Int32) (x4 : Int32) (x5 : Int32) (x6 : Int32) (S : MS) (H : Heap) (locs : List Loc) (ls : Array Slot), (x0 < shM.1 ∧ shM.2.1 x0 = 11) → mW G shM L S A s H locs → lv_has ls 8 [(0, .ref (ad L x0)), (2, .int x2), (3, .int x3), (4, .int x4), (5, .int x5), (6, .int x6)] → K41 x0 x2 x3 x4 x5 x6 S = some q → W p l e (rmd (8)) s m av below meth c H locs 0 0 (MQ below (mQ G shM L q.2 (some (.int q.1)) A) av s 0 0 A) (F0 m 41 ls [])) (C : mC p s m av meth c cX11_chance RX11 8 (some .int)) : ∀ (x0 : Nat) (x2 : Int32) (x3 : Int32) (x4 : Int32) (x6 : Int32) (y0 : Int32) (y1 : Int32) (S : MS) (H : Heap) (locs : List Loc) (ls : Array Slot), (x0 < shM.1 ∧ shM.2.1 x0 = 11) → mW G shM L S A s H locs → lv_has ls 8 [(0, .ref (ad L x0)), (2, .int x2), (3, .int x3), (4, .int x4), (6, .int x6)] → fX11_chance_111 K41 x0 x2 x3 x4 x6 y0 y1 S = some q → W p l e (rmd (8)) s m av below meth c H locs 0 0 (MQ below (mQ G shM L q.2 (some (.int q.1)) A) av s 0 0 A) (F0 m 111 ls [.int y1, .int y0]) := by
  intro x0 x2 x3 x4 x6 y0 y1 S H locs ls hx0 hW hl hf
  unfold fX11_chance_111 at hf
  refine lv_iadd C.1 C.2.1 dX11_chance_111 ?_
  refine lv_istore (lv' := [(5, .int (y0 + y1)), (0, .ref (ad L x0)), (2, .int x2), (3, .int x3), (4, .int x4), (6, .int x6)]) C.1 C.2.1 dX11_chance_112 hl (by decide) rfl (fun ls hl => ?_)
  refine lv_iinc (v := x6 + (1 : Int32)) (lv' := [(6, .int (x6 + (1 : Int32))), (5, .int (y0 + y1)), (0, .ref (ad L x0)), (2, .int x2), (3, .int x3), (4, .int x4)]) C.1 C.2.1 dX11_chance_114 hl (k := 5) rfl (congrArg (fun z => x6 + z) ic_1) (by decide) rfl (fun ls hl => ?_)
  refine lv_goto (tgt := 41) C.1 C.2.1 dX11_chance_117 rfl ?_
  exact hK41 x0 x2 x3 x4 (y0 + y1) (x6 + (1 : Int32)) _ _ _ _ hx0 hW (lv_sub hl [2, 3, 4, 5, 1, 0] rfl) hf

set_option maxRecDepth 100000 in
theorem kX11_chance_65 {p : Program} {l : Launch} {e : Env} {s : State} {m : MethodId} {av : Array Value} {below : List Frame} {meth : Method} {c : Code} {A : Nat → Prop} {G : Gv} {L : List Nat} {q : (Int32 × MS)} {K41 : Nat → Int32 → Int32 → Int32 → Int32 → Int32 → MS → Option (Int32 × MS)} (hK41 : ∀ (x0 : Nat) (x2 : Int32) (x3 : Int32) (x4 : Int32) (x5 : Int32) (x6 : Int32) (S : MS) (H : Heap) (locs : List Loc) (ls : Array Slot), (x0 < shM.1 ∧ shM.2.1 x0 = 11) → mW G shM L S A s H locs → lv_has ls 8 [(0, .ref (ad L x0)), (2, .int x2), (3, .int x3), (4, .int x4), (5, .int x5), (6, .int x6)] → K41 x0 x2 x3 x4 x5 x6 S = some q → W p l e (rmd (8)) s m av below meth c H locs 0 0 (MQ below (mQ G shM L q.2 (some (.int q.1)) A) av s 0 0 A) (F0 m 41 ls [])) (C : mC p s m av meth c cX11_chance RX11 8 (some .int)) : ∀ (n : Nat) (x0 : Nat) (x2 : Int32) (x3 : Int32) (x5 : Int32) (x6 : Int32) (x7 : Int32) (S : MS) (H : Heap) (locs : List Loc) (ls : Array Slot), (x0 < shM.1 ∧ shM.2.1 x0 = 11) → mW G shM L S A s H locs → lv_has ls 8 [(0, .ref (ad L x0)), (2, .int x2), (3, .int x3), (5, .int x5), (6, .int x6), (7, .int x7)] → fX11_chance_65 K41 n x0 x2 x3 x5 x6 x7 S = some q → W p l e (rmd (8)) s m av below meth c H locs 0 0 (MQ below (mQ G shM L q.2 (some (.int q.1)) A) av s 0 0 A) (F0 m 65 ls []) := by
  intro n
  induction n with
  | zero =>
    intro x0 x2 x3 x5 x6 x7 S H locs ls hx0 hW hl hf
    rw [fX11_chance_65] at hf
    cases hf
  | succ n ih =>
    intro x0 x2 x3 x5 x6 x7 S H locs ls hx0 hW hl hf
    rw [fX11_chance_65] at hf
    refine lv_iload C.1 C.2.1 dX11_chance_65 (lv_at hl 5 rfl) ?_
    refine lv_iload_n C.1 C.2.1 dX11_chance_67 rfl (lv_at hl 1 rfl) ?_
    refine lv_icmp_ge (tgt := 83) C.1 C.2.1 dX11_chance_68 rfl (fun c1 => ?_) (fun c1 => ?_)
    · have hf := (if_pos c1).symm.trans hf
      refine lv_aload_n C.1 C.2.1 dX11_chance_83 rfl (lv_at hl 0 rfl) ?_
      refine m_getr C hW hx0 flX11_96 (by decide) dX11_chance_84 (fun hk2 => ?_)
      refine lv_iconst C.1 C.2.1 dX11_chance_87 ic_1 ?_
      obtain ⟨hb3, hf⟩ := gd hf
      refine m_iald C hW hk2 hb3 dX11_chance_88 ?_
      refine lv_istore (lv' := [(4, .int (gI S (gR S x0 44) (1 : Int32).toNatClampNeg)), (0, .ref (ad L x0)), (2, .int x2), (3, .int x3), (5, .int x5), (6, .int x6), (7, .int x7)]) C.1 C.2.1 dX11_chance_89 hl (by decide) rfl (fun ls hl => ?_)
      refine lv_iload C.1 C.2.1 dX11_chance_91 (lv_at hl 4 rfl) ?_
      refine lv_aload_n C.1 C.2.1 dX11_chance_93 rfl (lv_at hl 1 rfl) ?_
      refine m_getr C hW hx0 flX11_117 (by decide) dX11_chance_94 (fun hk4 => ?_)
      refine lv_iconst C.1 C.2.1 dX11_chance_97 ic_1 ?_
      obtain ⟨hb5, hf⟩ := gd hf
      refine m_iald C hW hk4 hb5 dX11_chance_98 ?_
      obtain ⟨q6, h7, hf⟩ := bd hf
      refine m_callS (As := [.int (gI S (gR S x0 51) (1 : Int32).toNatClampNeg)]) (rest := [.int x5]) C hW (cX11_bitsOf_ok   h7) mlX11_361 rfl hl.1 rfl (Nat.le_of_ble_eq_true rfl) (Nat.le_of_ble_eq_true rfl) (Nat.le_of_ble_eq_true rfl) dX11_chance_99 (fun H locs hW => ?_)
      refine lv_iload_n C.1 C.2.1 dX11_chance_102 rfl (lv_at hl 3 rfl) ?_
      refine lv_icmp_lt (tgt := 110) C.1 C.2.1 dX11_chance_103 rfl (fun c8 => ?_) (fun c8 => ?_)
      · have hf := (if_pos c8).symm.trans hf
        refine lv_iconst C.1 C.2.1 dX11_chance_110 ic_0 ?_
        exact kX11_chance_111 hK41 C x0 x2 x3 (gI S (gR S x0 44) (1 : Int32).toNatClampNeg) x6 x5 (0 : Int32) _ _ _ _ hx0 hW (lv_sub hl [1, 2, 3, 0, 5] rfl) hf
      · have hf := (if_neg c8).symm.trans hf
        refine lv_iconst C.1 C.2.1 dX11_chance_106 ic_1 ?_
        refine lv_goto (tgt := 111) C.1 C.2.1 dX11_chance_107 rfl ?_
        exact kX11_chance_111 hK41 C x0 x2 x3 (gI S (gR S x0 44) (1 : Int32).toNatClampNeg) x6 x5 (1 : Int32) _ _ _ _ hx0 hW (lv_sub hl [1, 2, 3, 0, 5] rfl) hf
    · have hf := (if_neg c1).symm.trans hf
      refine lv_aload_n C.1 C.2.1 dX11_chance_71 rfl (lv_at hl 0 rfl) ?_
      refine lv_iconst C.1 C.2.1 dX11_chance_72 ic_1 ?_
      refine lv_iconst C.1 C.2.1 dX11_chance_73 ic_1 ?_
      obtain ⟨q9, h10, hf⟩ := bd hf
      refine m_callV (As := [.int (1 : Int32), .int (1 : Int32)]) (rest := []) C hW hx0 (cX11_passes_ok  hx0 h10) mlX11_465 (by decide) rfl hl.1 rfl (Nat.le_of_ble_eq_true rfl) (Nat.le_of_ble_eq_true rfl) (Nat.le_of_ble_eq_true rfl) dX11_chance_74 (fun H locs hW => ?_)
      refine lv_iinc (v := x7 + (1 : Int32)) (lv' := [(7, .int (x7 + (1 : Int32))), (0, .ref (ad L x0)), (2, .int x2), (3, .int x3), (5, .int x5), (6, .int x6)]) C.1 C.2.1 dX11_chance_77 hl (k := 5) rfl (congrArg (fun z => x7 + z) ic_1) (by decide) rfl (fun ls hl => ?_)
      refine lv_goto (tgt := 65) C.1 C.2.1 dX11_chance_80 rfl ?_
      exact ih x0 x2 x3 x5 x6 (x7 + (1 : Int32)) _ _ _ _ hx0 hW (lv_sub hl [1, 2, 3, 4, 5, 0] rfl) hf

set_option maxRecDepth 100000 in
theorem kX11_chance_41 {p : Program} {l : Launch} {e : Env} {s : State} {m : MethodId} {av : Array Value} {below : List Frame} {meth : Method} {c : Code} {A : Nat → Prop} {G : Gv} {L : List Nat} {q : (Int32 × MS)}  (C : mC p s m av meth c cX11_chance RX11 8 (some .int)) : ∀ (n : Nat) (x0 : Nat) (x2 : Int32) (x3 : Int32) (x4 : Int32) (x5 : Int32) (x6 : Int32) (S : MS) (H : Heap) (locs : List Loc) (ls : Array Slot), (x0 < shM.1 ∧ shM.2.1 x0 = 11) → mW G shM L S A s H locs → lv_has ls 8 [(0, .ref (ad L x0)), (2, .int x2), (3, .int x3), (4, .int x4), (5, .int x5), (6, .int x6)] → fX11_chance_41  n x0 x2 x3 x4 x5 x6 S = some q → W p l e (rmd (8)) s m av below meth c H locs 0 0 (MQ below (mQ G shM L q.2 (some (.int q.1)) A) av s 0 0 A) (F0 m 41 ls []) := by
  intro n
  induction n with
  | zero =>
    intro x0 x2 x3 x4 x5 x6 S H locs ls hx0 hW hl hf
    rw [fX11_chance_41] at hf
    cases hf
  | succ n ih =>
    intro x0 x2 x3 x4 x5 x6 S H locs ls hx0 hW hl hf
    rw [fX11_chance_41] at hf
    refine lv_iload C.1 C.2.1 dX11_chance_41 (lv_at hl 5 rfl) ?_
    refine lv_bipush C.1 C.2.1 dX11_chance_43 bp_10 ?_
    refine lv_icmp_ge (tgt := 120) C.1 C.2.1 dX11_chance_45 rfl (fun c11 => ?_) (fun c11 => ?_)
    · have hf := (if_pos c11).symm.trans hf
      refine lv_iload C.1 C.2.1 dX11_chance_120 (lv_at hl 4 rfl) ?_
      cases hf
      exact m_iret C hW dX11_chance_122
    · have hf := (if_neg c11).symm.trans hf
      refine lv_aload_n C.1 C.2.1 dX11_chance_48 rfl (lv_at hl 0 rfl) ?_
      refine lv_iconst C.1 C.2.1 dX11_chance_49 ic_1 ?_
      refine lv_iconst C.1 C.2.1 dX11_chance_50 ic_0 ?_
      obtain ⟨q12, h13, hf⟩ := bd hf
      refine m_callV (As := [.int (1 : Int32), .int (0 : Int32)]) (rest := []) C hW hx0 (cX11_copies_ok  hx0 h13) mlX11_488 (by decide) rfl hl.1 rfl (Nat.le_of_ble_eq_true rfl) (Nat.le_of_ble_eq_true rfl) (Nat.le_of_ble_eq_true rfl) dX11_chance_51 (fun H locs hW => ?_)
      refine lv_aload_n C.1 C.2.1 dX11_chance_54 rfl (lv_at hl 0 rfl) ?_
      refine m_getr C hW hx0 flX11_96 (by decide) dX11_chance_55 (fun hk14 => ?_)
      refine lv_iconst C.1 C.2.1 dX11_chance_58 ic_1 ?_
      refine lv_iload C.1 C.2.1 dX11_chance_59 (lv_at hl 3 rfl) ?_
      obtain ⟨hb15, hf⟩ := gd hf
      refine m_iast C hW hk14 hb15 dX11_chance_61 (fun H locs hW => ?_)
      refine lv_iconst C.1 C.2.1 dX11_chance_62 ic_0 ?_
      refine lv_istore (lv' := [(7, .int (0 : Int32)), (0, .ref (ad L x0)), (2, .int x2), (3, .int x3), (4, .int x4), (5, .int x5), (6, .int x6)]) C.1 C.2.1 dX11_chance_63 hl (by decide) rfl (fun ls hl => ?_)
      exact kX11_chance_65 ih C 1000 x0 x2 x3 x5 x6 (0 : Int32) _ _ _ _ hx0 hW (lv_sub hl [1, 2, 3, 5, 6, 0] rfl) hf

set_option maxRecDepth 100000 in
theorem cX11_chance_ok {l : Launch} {G : Gv} {L : List Nat} {S : MS} {a0 : Nat} {a1 : Int32} {a2 : Int32} {a3 : Int32} {q : (Int32 × MS)} (ha0 : a0 < shM.1 ∧ shM.2.1 a0 = 11) (hf : fX11_chance a0 a1 a2 a3 S = some q) : Mt l yX11_chance cX11_chance 8 (some .int) (8) G shM L S [.ref (ad L a0), .int a1, .int a2, .int a3] (some (.int q.1)) q.2 := by
  refine m_enter (lv := [(0, .ref (ad L a0)), (1, .int a1), (2, .int a2), (3, .int a3)]) (plainFor_of_name (by decide)) (Nat.le_of_ble_eq_true rfl) rfl ?_
  intro p e s m below meth c A ls C hW hl
  unfold fX11_chance at hf
  refine lv_aload_n C.1 C.2.1 dX11_chance_0 rfl (lv_at hl 0 rfl) ?_
  refine lv_iconst C.1 C.2.1 dX11_chance_1 ic_0 ?_
  refine m_puti C hW ha0 fpX11_163 dX11_chance_2 (fun H locs hW => ?_)
  refine lv_iload_n C.1 C.2.1 dX11_chance_5 rfl (lv_at hl 1 rfl) ?_
  refine lv_if_lt (tgt := 30) C.1 C.2.1 dX11_chance_6 rfl (fun c16 => ?_) (fun c16 => ?_)
  · have hf := (if_pos c16).symm.trans hf
    refine lv_iconst C.1 C.2.1 dX11_chance_30 ic_m1 ?_
    cases hf
    exact m_iret C hW dX11_chance_31
  · have hf := (if_neg c16).symm.trans hf
    refine lv_iload_n C.1 C.2.1 dX11_chance_9 rfl (lv_at hl 2 rfl) ?_
    refine lv_iconst C.1 C.2.1 dX11_chance_10 ic_1 ?_
    refine lv_icmp_lt (tgt := 30) C.1 C.2.1 dX11_chance_11 rfl (fun c17 => ?_) (fun c17 => ?_)
    · have hf := (if_pos c17).symm.trans hf
      refine lv_iconst C.1 C.2.1 dX11_chance_30 ic_m1 ?_
      cases hf
      exact m_iret C hW dX11_chance_31
    · have hf := (if_neg c17).symm.trans hf
      refine lv_iload_n C.1 C.2.1 dX11_chance_14 rfl (lv_at hl 2 rfl) ?_
      refine lv_bipush C.1 C.2.1 dX11_chance_15 bp_99 ?_
      refine lv_icmp_gt (tgt := 30) C.1 C.2.1 dX11_chance_17 rfl (fun c18 => ?_) (fun c18 => ?_)
      · have hf := (if_pos c18).symm.trans hf
        refine lv_iconst C.1 C.2.1 dX11_chance_30 ic_m1 ?_
        cases hf
        exact m_iret C hW dX11_chance_31
      · have hf := (if_neg c18).symm.trans hf
        refine lv_iload_n C.1 C.2.1 dX11_chance_20 rfl (lv_at hl 3 rfl) ?_
        refine lv_if_lt (tgt := 30) C.1 C.2.1 dX11_chance_21 rfl (fun c19 => ?_) (fun c19 => ?_)
        · have hf := (if_pos c19).symm.trans hf
          refine lv_iconst C.1 C.2.1 dX11_chance_30 ic_m1 ?_
          cases hf
          exact m_iret C hW dX11_chance_31
        · have hf := (if_neg c19).symm.trans hf
          refine lv_iload_n C.1 C.2.1 dX11_chance_24 rfl (lv_at hl 3 rfl) ?_
          refine lv_bipush C.1 C.2.1 dX11_chance_25 bp_8 ?_
          refine lv_icmp_le (tgt := 32) C.1 C.2.1 dX11_chance_27 rfl (fun c20 => ?_) (fun c20 => ?_)
          · have hf := (if_pos c20).symm.trans hf
            refine lv_iload_n C.1 C.2.1 dX11_chance_32 rfl (lv_at hl 1 rfl) ?_
            refine lv_istore (lv' := [(4, .int a1), (0, .ref (ad L a0)), (1, .int a1), (2, .int a2), (3, .int a3)]) C.1 C.2.1 dX11_chance_33 hl (by decide) rfl (fun ls hl => ?_)
            refine lv_iconst C.1 C.2.1 dX11_chance_35 ic_0 ?_
            refine lv_istore (lv' := [(5, .int (0 : Int32)), (4, .int a1), (0, .ref (ad L a0)), (1, .int a1), (2, .int a2), (3, .int a3)]) C.1 C.2.1 dX11_chance_36 hl (by decide) rfl (fun ls hl => ?_)
            refine lv_iconst C.1 C.2.1 dX11_chance_38 ic_0 ?_
            refine lv_istore (lv' := [(6, .int (0 : Int32)), (5, .int (0 : Int32)), (4, .int a1), (0, .ref (ad L a0)), (1, .int a1), (2, .int a2), (3, .int a3)]) C.1 C.2.1 dX11_chance_39 hl (by decide) rfl (fun ls hl => ?_)
            exact kX11_chance_41  C 1000 a0 a2 a3 a1 (0 : Int32) (0 : Int32) _ _ _ _ ha0 hW (lv_sub hl [3, 5, 6, 2, 1, 0] rfl) hf
          · have hf := (if_neg c20).symm.trans hf
            refine lv_iconst C.1 C.2.1 dX11_chance_30 ic_m1 ?_
            cases hf
            exact m_iret C hW dX11_chance_31

def fX11_rowToken (a0 : Nat) (S : MS) : Option (Int32 × MS) := (fX11_fresher  a0 (0 : Int32) S).bind fun q1 => (fX11_numeral  a0 (0 : Int32) (q1 - (1 : Int32)) S).bind fun q3 => some (q3.1, q3.2)
set_option maxRecDepth 100000 in
theorem cX11_rowToken_ok {l : Launch} {G : Gv} {L : List Nat} {S : MS} {a0 : Nat} {q : (Int32 × MS)} (ha0 : a0 < shM.1 ∧ shM.2.1 a0 = 11) (hf : fX11_rowToken a0 S = some q) : Mt l yX11_rowToken cX11_rowToken 1 (some .int) (8) G shM L S [.ref (ad L a0)] (some (.int q.1)) q.2 := by
  refine m_enter (lv := [(0, .ref (ad L a0))]) (plainFor_of_name (by decide)) (Nat.le_of_ble_eq_true rfl) rfl ?_
  intro p e s m below meth c A ls C hW hl
  unfold fX11_rowToken at hf
  refine lv_aload_n C.1 C.2.1 dX11_rowToken_0 rfl (lv_at hl 0 rfl) ?_
  refine lv_iconst C.1 C.2.1 dX11_rowToken_1 ic_0 ?_
  refine lv_aload_n C.1 C.2.1 dX11_rowToken_2 rfl (lv_at hl 0 rfl) ?_
  refine lv_iconst C.1 C.2.1 dX11_rowToken_3 ic_0 ?_
  obtain ⟨q1, h2, hf⟩ := bd hf
  refine m_callV (As := [.int (0 : Int32)]) (rest := [.int (0 : Int32), .ref (ad L a0)]) C hW ha0 (cX11_fresher_ok  ha0 h2) mlX11_233 (by decide) rfl hl.1 rfl (Nat.le_of_ble_eq_true rfl) (Nat.le_of_ble_eq_true rfl) (Nat.le_of_ble_eq_true rfl) dX11_rowToken_4 (fun H locs hW => ?_)
  refine lv_iconst C.1 C.2.1 dX11_rowToken_7 ic_1 ?_
  refine lv_isub C.1 C.2.1 dX11_rowToken_8 ?_
  obtain ⟨q3, h4, hf⟩ := bd hf
  refine m_callV (As := [.int (0 : Int32), .int (q1 - (1 : Int32))]) (rest := []) C hW ha0 (cX11_numeral_ok  ha0 h4) mlX11_249 (by decide) rfl hl.1 rfl (Nat.le_of_ble_eq_true rfl) (Nat.le_of_ble_eq_true rfl) (Nat.le_of_ble_eq_true rfl) dX11_rowToken_9 (fun H locs hW => ?_)
  cases hf
  exact m_iret C hW dX11_rowToken_12

def fX11_columnToken (a0 : Nat) (S : MS) : Option (Int32 × MS) := (fX11_fresher  a0 (1 : Int32) S).bind fun q1 => (fX11_numeral  a0 (0 : Int32) (q1 - (1 : Int32)) S).bind fun q3 => some (q3.1, q3.2)
set_option maxRecDepth 100000 in
theorem cX11_columnToken_ok {l : Launch} {G : Gv} {L : List Nat} {S : MS} {a0 : Nat} {q : (Int32 × MS)} (ha0 : a0 < shM.1 ∧ shM.2.1 a0 = 11) (hf : fX11_columnToken a0 S = some q) : Mt l yX11_columnToken cX11_columnToken 1 (some .int) (8) G shM L S [.ref (ad L a0)] (some (.int q.1)) q.2 := by
  refine m_enter (lv := [(0, .ref (ad L a0))]) (plainFor_of_name (by decide)) (Nat.le_of_ble_eq_true rfl) rfl ?_
  intro p e s m below meth c A ls C hW hl
  unfold fX11_columnToken at hf
  refine lv_aload_n C.1 C.2.1 dX11_columnToken_0 rfl (lv_at hl 0 rfl) ?_
  refine lv_iconst C.1 C.2.1 dX11_columnToken_1 ic_0 ?_
  refine lv_aload_n C.1 C.2.1 dX11_columnToken_2 rfl (lv_at hl 0 rfl) ?_
  refine lv_iconst C.1 C.2.1 dX11_columnToken_3 ic_1 ?_
  obtain ⟨q1, h2, hf⟩ := bd hf
  refine m_callV (As := [.int (1 : Int32)]) (rest := [.int (0 : Int32), .ref (ad L a0)]) C hW ha0 (cX11_fresher_ok  ha0 h2) mlX11_233 (by decide) rfl hl.1 rfl (Nat.le_of_ble_eq_true rfl) (Nat.le_of_ble_eq_true rfl) (Nat.le_of_ble_eq_true rfl) dX11_columnToken_4 (fun H locs hW => ?_)
  refine lv_iconst C.1 C.2.1 dX11_columnToken_7 ic_1 ?_
  refine lv_isub C.1 C.2.1 dX11_columnToken_8 ?_
  obtain ⟨q3, h4, hf⟩ := bd hf
  refine m_callV (As := [.int (0 : Int32), .int (q1 - (1 : Int32))]) (rest := []) C hW ha0 (cX11_numeral_ok  ha0 h4) mlX11_249 (by decide) rfl hl.1 rfl (Nat.le_of_ble_eq_true rfl) (Nat.le_of_ble_eq_true rfl) (Nat.le_of_ble_eq_true rfl) dX11_columnToken_9 (fun H locs hW => ?_)
  cases hf
  exact m_iret C hW dX11_columnToken_12

def fX11_sunLine_76  (x0 : Nat) (x1 : Int32) (S : MS) : Option MS := (fX11_numeral  x0 (0 : Int32) (3 : Int32) S).bind fun q2 => (if bnd x1 (lnM (gR S x0 6)) = true then (fX11_numeral  x0 (0 : Int32) (7 : Int32) (pI q2.2 (gR S x0 6) x1.toNatClampNeg q2.1)).bind fun q6 => (if bnd x1 (lnM (gR (pI q2.2 (gR S x0 6) x1.toNatClampNeg q2.1) x0 7)) = true then (fX11_fresher  x0 (5 : Int32) (pI q6.2 (gR (pI q2.2 (gR S x0 6) x1.toNatClampNeg q2.1) x0 7) x1.toNatClampNeg q6.1)).bind fun q9 => (fX11_reads  x0 (5 : Int32) (q9 + (1 : Int32)) (pI q6.2 (gR (pI q2.2 (gR S x0 6) x1.toNatClampNeg q2.1) x0 7) x1.toNatClampNeg q6.1)).bind fun q11 => some q11 else none) else none)
def fX11_sunLine_46  (x0 : Nat) (x1 : Int32) (S : MS) : Option MS := (fX11_numeral  x0 (0 : Int32) (23 : Int32) S).bind fun q14 => (if bnd x1 (lnM (gR S x0 5)) = true then (if bnd x1 (lnM (gR (pI q14.2 (gR S x0 5) x1.toNatClampNeg q14.1) x0 5)) = true then fX11_sunLine_76  x0 x1 (pI (pI q14.2 (gR S x0 5) x1.toNatClampNeg q14.1) x0 26 ((gI (pI q14.2 (gR S x0 5) x1.toNatClampNeg q14.1) x0 26) ||| ((1 : Int32) <<< ((gI (pI q14.2 (gR S x0 5) x1.toNatClampNeg q14.1) (gR (pI q14.2 (gR S x0 5) x1.toNatClampNeg q14.1) x0 5) x1.toNatClampNeg) &&& 31)))) else none) else none)
def fX11_sunLine (a0 : Nat) (S : MS) : Option MS := (fX11_fresher  a0 (5 : Int32) S).bind fun q19 => (if gI S a0 32 = (2 : Int32) then (if (24 : Int32) ≤ (gI S a0 33) then fX11_sunLine_46  a0 ((6 : Int32) + q19) S else (if ((gI S a0 26) >>> ((gI S a0 33) &&& 31)) &&& (1 : Int32) = (1 : Int32) then (fX11_wrong  a0 (3 : Int32) S).bind fun q24 => fX11_sunLine_46  a0 ((6 : Int32) + q19) q24 else fX11_sunLine_46  a0 ((6 : Int32) + q19) S)) else fX11_sunLine_46  a0 ((6 : Int32) + q19) S)
set_option maxRecDepth 100000 in
theorem kX11_sunLine_76 {p : Program} {l : Launch} {e : Env} {s : State} {m : MethodId} {av : Array Value} {below : List Frame} {meth : Method} {c : Code} {A : Nat → Prop} {G : Gv} {L : List Nat} {q : MS}  (C : mC p s m av meth c cX11_sunLine RX11 2 none) : ∀ (x0 : Nat) (x1 : Int32) (S : MS) (H : Heap) (locs : List Loc) (ls : Array Slot), (x0 < shM.1 ∧ shM.2.1 x0 = 11) → mW G shM L S A s H locs → lv_has ls 2 [(0, .ref (ad L x0)), (1, .int x1)] → fX11_sunLine_76  x0 x1 S = some q → W p l e (rmd (8)) s m av below meth c H locs 0 0 (MQ below (mQ G shM L q none A) av s 0 0 A) (F0 m 76 ls []) := by
  intro x0 x1 S H locs ls hx0 hW hl hf
  unfold fX11_sunLine_76 at hf
  refine lv_aload_n C.1 C.2.1 dX11_sunLine_76 rfl (lv_at hl 0 rfl) ?_
  refine m_getr C hW hx0 flX11_22 (by decide) dX11_sunLine_77 (fun hk1 => ?_)
  refine lv_iload_n C.1 C.2.1 dX11_sunLine_80 rfl (lv_at hl 1 rfl) ?_
  refine lv_aload_n C.1 C.2.1 dX11_sunLine_81 rfl (lv_at hl 0 rfl) ?_
  refine lv_iconst C.1 C.2.1 dX11_sunLine_82 ic_0 ?_
  refine lv_iconst C.1 C.2.1 dX11_sunLine_83 ic_3 ?_
  obtain ⟨q2, h3, hf⟩ := bd hf
  refine m_callV (As := [.int (0 : Int32), .int (3 : Int32)]) (rest := [.int x1, .ref (ad L (gR S x0 6))]) C hW hx0 (cX11_numeral_ok  hx0 h3) mlX11_249 (by decide) rfl hl.1 rfl (Nat.le_of_ble_eq_true rfl) (Nat.le_of_ble_eq_true rfl) (Nat.le_of_ble_eq_true rfl) dX11_sunLine_84 (fun H locs hW => ?_)
  obtain ⟨hb4, hf⟩ := gd hf
  refine m_iast C hW hk1 hb4 dX11_sunLine_87 (fun H locs hW => ?_)
  refine lv_aload_n C.1 C.2.1 dX11_sunLine_88 rfl (lv_at hl 0 rfl) ?_
  refine m_getr C hW hx0 flX11_25 (by decide) dX11_sunLine_89 (fun hk5 => ?_)
  refine lv_iload_n C.1 C.2.1 dX11_sunLine_92 rfl (lv_at hl 1 rfl) ?_
  refine lv_aload_n C.1 C.2.1 dX11_sunLine_93 rfl (lv_at hl 0 rfl) ?_
  refine lv_iconst C.1 C.2.1 dX11_sunLine_94 ic_0 ?_
  refine lv_bipush C.1 C.2.1 dX11_sunLine_95 bp_7 ?_
  obtain ⟨q6, h7, hf⟩ := bd hf
  refine m_callV (As := [.int (0 : Int32), .int (7 : Int32)]) (rest := [.int x1, .ref (ad L (gR (pI q2.2 (gR S x0 6) x1.toNatClampNeg q2.1) x0 7))]) C hW hx0 (cX11_numeral_ok  hx0 h7) mlX11_249 (by decide) rfl hl.1 rfl (Nat.le_of_ble_eq_true rfl) (Nat.le_of_ble_eq_true rfl) (Nat.le_of_ble_eq_true rfl) dX11_sunLine_97 (fun H locs hW => ?_)
  obtain ⟨hb8, hf⟩ := gd hf
  refine m_iast C hW hk5 hb8 dX11_sunLine_100 (fun H locs hW => ?_)
  refine lv_aload_n C.1 C.2.1 dX11_sunLine_101 rfl (lv_at hl 0 rfl) ?_
  refine lv_iconst C.1 C.2.1 dX11_sunLine_102 ic_5 ?_
  refine lv_aload_n C.1 C.2.1 dX11_sunLine_103 rfl (lv_at hl 0 rfl) ?_
  refine lv_iconst C.1 C.2.1 dX11_sunLine_104 ic_5 ?_
  obtain ⟨q9, h10, hf⟩ := bd hf
  refine m_callV (As := [.int (5 : Int32)]) (rest := [.int (5 : Int32), .ref (ad L x0)]) C hW hx0 (cX11_fresher_ok  hx0 h10) mlX11_233 (by decide) rfl hl.1 rfl (Nat.le_of_ble_eq_true rfl) (Nat.le_of_ble_eq_true rfl) (Nat.le_of_ble_eq_true rfl) dX11_sunLine_105 (fun H locs hW => ?_)
  refine lv_iconst C.1 C.2.1 dX11_sunLine_108 ic_1 ?_
  refine lv_iadd C.1 C.2.1 dX11_sunLine_109 ?_
  obtain ⟨q11, h12, hf⟩ := bd hf
  refine m_callV (As := [.int (5 : Int32), .int (q9 + (1 : Int32))]) (rest := []) C hW hx0 (cX11_reads_ok  hx0 h12) mlX11_253 (by decide) rfl hl.1 rfl (Nat.le_of_ble_eq_true rfl) (Nat.le_of_ble_eq_true rfl) (Nat.le_of_ble_eq_true rfl) dX11_sunLine_110 (fun H locs hW => ?_)
  cases hf
  exact m_vret C hW dX11_sunLine_113

set_option maxRecDepth 100000 in
theorem kX11_sunLine_46 {p : Program} {l : Launch} {e : Env} {s : State} {m : MethodId} {av : Array Value} {below : List Frame} {meth : Method} {c : Code} {A : Nat → Prop} {G : Gv} {L : List Nat} {q : MS}  (C : mC p s m av meth c cX11_sunLine RX11 2 none) : ∀ (x0 : Nat) (x1 : Int32) (S : MS) (H : Heap) (locs : List Loc) (ls : Array Slot), (x0 < shM.1 ∧ shM.2.1 x0 = 11) → mW G shM L S A s H locs → lv_has ls 2 [(0, .ref (ad L x0)), (1, .int x1)] → fX11_sunLine_46  x0 x1 S = some q → W p l e (rmd (8)) s m av below meth c H locs 0 0 (MQ below (mQ G shM L q none A) av s 0 0 A) (F0 m 46 ls []) := by
  intro x0 x1 S H locs ls hx0 hW hl hf
  unfold fX11_sunLine_46 at hf
  refine lv_aload_n C.1 C.2.1 dX11_sunLine_46 rfl (lv_at hl 0 rfl) ?_
  refine m_getr C hW hx0 flX11_19 (by decide) dX11_sunLine_47 (fun hk13 => ?_)
  refine lv_iload_n C.1 C.2.1 dX11_sunLine_50 rfl (lv_at hl 1 rfl) ?_
  refine lv_aload_n C.1 C.2.1 dX11_sunLine_51 rfl (lv_at hl 0 rfl) ?_
  refine lv_iconst C.1 C.2.1 dX11_sunLine_52 ic_0 ?_
  refine lv_bipush C.1 C.2.1 dX11_sunLine_53 bp_23 ?_
  obtain ⟨q14, h15, hf⟩ := bd hf
  refine m_callV (As := [.int (0 : Int32), .int (23 : Int32)]) (rest := [.int x1, .ref (ad L (gR S x0 5))]) C hW hx0 (cX11_numeral_ok  hx0 h15) mlX11_249 (by decide) rfl hl.1 rfl (Nat.le_of_ble_eq_true rfl) (Nat.le_of_ble_eq_true rfl) (Nat.le_of_ble_eq_true rfl) dX11_sunLine_55 (fun H locs hW => ?_)
  obtain ⟨hb16, hf⟩ := gd hf
  refine m_iast C hW hk13 hb16 dX11_sunLine_58 (fun H locs hW => ?_)
  refine lv_aload_n C.1 C.2.1 dX11_sunLine_59 rfl (lv_at hl 0 rfl) ?_
  refine lv_dup C.1 C.2.1 dX11_sunLine_60 rfl ?_
  refine m_geti C hW hx0 flX11_279 dX11_sunLine_61 ?_
  refine lv_iconst C.1 C.2.1 dX11_sunLine_64 ic_1 ?_
  refine lv_aload_n C.1 C.2.1 dX11_sunLine_65 rfl (lv_at hl 0 rfl) ?_
  refine m_getr C hW hx0 flX11_19 (by decide) dX11_sunLine_66 (fun hk17 => ?_)
  refine lv_iload_n C.1 C.2.1 dX11_sunLine_69 rfl (lv_at hl 1 rfl) ?_
  obtain ⟨hb18, hf⟩ := gd hf
  refine m_iald C hW hk17 hb18 dX11_sunLine_70 ?_
  refine lv_ishl C.1 C.2.1 dX11_sunLine_71 ?_
  refine lv_ior C.1 C.2.1 dX11_sunLine_72 ?_
  refine m_puti C hW hx0 fpX11_279 dX11_sunLine_73 (fun H locs hW => ?_)
  exact kX11_sunLine_76  C x0 x1 _ _ _ _ hx0 hW (lv_sub hl [0, 1] rfl) hf

set_option maxRecDepth 100000 in
theorem cX11_sunLine_ok {l : Launch} {G : Gv} {L : List Nat} {S : MS} {a0 : Nat} {q : MS} (ha0 : a0 < shM.1 ∧ shM.2.1 a0 = 11) (hf : fX11_sunLine a0 S = some q) : Mt l yX11_sunLine cX11_sunLine 2 none (8) G shM L S [.ref (ad L a0)] none q := by
  refine m_enter (lv := [(0, .ref (ad L a0))]) (plainFor_of_name (by decide)) (Nat.le_of_ble_eq_true rfl) rfl ?_
  intro p e s m below meth c A ls C hW hl
  unfold fX11_sunLine at hf
  refine lv_bipush C.1 C.2.1 dX11_sunLine_0 bp_6 ?_
  refine lv_aload_n C.1 C.2.1 dX11_sunLine_2 rfl (lv_at hl 0 rfl) ?_
  refine lv_iconst C.1 C.2.1 dX11_sunLine_3 ic_5 ?_
  obtain ⟨q19, h20, hf⟩ := bd hf
  refine m_callV (As := [.int (5 : Int32)]) (rest := [.int (6 : Int32)]) C hW ha0 (cX11_fresher_ok  ha0 h20) mlX11_233 (by decide) rfl hl.1 rfl (Nat.le_of_ble_eq_true rfl) (Nat.le_of_ble_eq_true rfl) (Nat.le_of_ble_eq_true rfl) dX11_sunLine_4 (fun H locs hW => ?_)
  refine lv_iadd C.1 C.2.1 dX11_sunLine_7 ?_
  refine lv_istore_n (lv' := [(1, .int ((6 : Int32) + q19)), (0, .ref (ad L a0))]) C.1 C.2.1 dX11_sunLine_8 rfl hl (by decide) rfl (fun ls hl => ?_)
  refine lv_aload_n C.1 C.2.1 dX11_sunLine_9 rfl (lv_at hl 1 rfl) ?_
  refine m_geti C hW ha0 flX11_182 dX11_sunLine_10 ?_
  refine lv_iconst C.1 C.2.1 dX11_sunLine_13 ic_2 ?_
  refine lv_icmp_ne (tgt := 46) C.1 C.2.1 dX11_sunLine_14 rfl (fun c21 => ?_) (fun c21 => ?_)
  · have hf := (if_neg c21).symm.trans hf
    exact kX11_sunLine_46  C a0 ((6 : Int32) + q19) _ _ _ _ ha0 hW (lv_sub hl [1, 0] rfl) hf
  · have hf := (if_pos c21).symm.trans hf
    refine lv_aload_n C.1 C.2.1 dX11_sunLine_17 rfl (lv_at hl 1 rfl) ?_
    refine m_geti C hW ha0 flX11_192 dX11_sunLine_18 ?_
    refine lv_bipush C.1 C.2.1 dX11_sunLine_21 bp_24 ?_
    refine lv_icmp_ge (tgt := 46) C.1 C.2.1 dX11_sunLine_23 rfl (fun c22 => ?_) (fun c22 => ?_)
    · have hf := (if_pos c22).symm.trans hf
      exact kX11_sunLine_46  C a0 ((6 : Int32) + q19) _ _ _ _ ha0 hW (lv_sub hl [1, 0] rfl) hf
    · have hf := (if_neg c22).symm.trans hf
      refine lv_aload_n C.1 C.2.1 dX11_sunLine_26 rfl (lv_at hl 1 rfl) ?_
      refine m_geti C hW ha0 flX11_279 dX11_sunLine_27 ?_
      refine lv_aload_n C.1 C.2.1 dX11_sunLine_30 rfl (lv_at hl 1 rfl) ?_
      refine m_geti C hW ha0 flX11_192 dX11_sunLine_31 ?_
      refine lv_ishr C.1 C.2.1 dX11_sunLine_34 ?_
      refine lv_iconst C.1 C.2.1 dX11_sunLine_35 ic_1 ?_
      refine lv_iand C.1 C.2.1 dX11_sunLine_36 ?_
      refine lv_iconst C.1 C.2.1 dX11_sunLine_37 ic_1 ?_
      refine lv_icmp_ne (tgt := 46) C.1 C.2.1 dX11_sunLine_38 rfl (fun c23 => ?_) (fun c23 => ?_)
      · have hf := (if_neg c23).symm.trans hf
        exact kX11_sunLine_46  C a0 ((6 : Int32) + q19) _ _ _ _ ha0 hW (lv_sub hl [1, 0] rfl) hf
      · have hf := (if_pos c23).symm.trans hf
        refine lv_aload_n C.1 C.2.1 dX11_sunLine_41 rfl (lv_at hl 1 rfl) ?_
        refine lv_iconst C.1 C.2.1 dX11_sunLine_42 ic_3 ?_
        obtain ⟨q24, h25, hf⟩ := bd hf
        refine m_callV (As := [.int (3 : Int32)]) (rest := []) C hW ha0 (cX11_wrong_ok  ha0 h25) mlX11_226 (by decide) rfl hl.1 rfl (Nat.le_of_ble_eq_true rfl) (Nat.le_of_ble_eq_true rfl) (Nat.le_of_ble_eq_true rfl) dX11_sunLine_43 (fun H locs hW => ?_)
        exact kX11_sunLine_46  C a0 ((6 : Int32) + q19) _ _ _ _ ha0 hW (lv_sub hl [1, 0] rfl) hf

