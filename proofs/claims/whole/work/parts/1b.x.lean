def fX4_search (a0 : Nat) (a1 : Nat) (S : MS) : Option MS := (fX8_worthOf  (gR (pI S a0 4 (-1 : Int32)) (gR (pI S a0 4 (-1 : Int32)) a0 3) 1) ((gI (pI S a0 4 (-1 : Int32)) a1 8) ^^^ (-1 : Int32)) (pI S a0 4 (-1 : Int32))).bind fun q3 => (if bnd (0 : Int32) (lnX (gR (pI (pI S a0 4 (-1 : Int32)) a0 5 q3) a0 2)) = true then (fX9_become  (gR (pI (pI S a0 4 (-1 : Int32)) a0 5 q3) (gR (pI (pI S a0 4 (-1 : Int32)) a0 5 q3) a0 2) (0 : Int32).toNatClampNeg) a1 (pI (pI S a0 4 (-1 : Int32)) a0 5 q3)).bind fun q8 => (fX4_lay  a0 (0 : Int32) q8).bind fun q10 => some q10 else none)
set_option maxRecDepth 100000 in
theorem cX4_search_ok {l : Launch} {G : Gv} {L : List Nat} {S : MS} {a0 : Nat} {a1 : Nat} {q : MS} (ha0 : a0 < shX.1 ∧ shX.2.1 a0 = 4) (ha1 : a1 < shX.1 ∧ shX.2.1 a1 = 9) (hf : fX4_search a0 a1 S = some q) : Mt l yX4_search cX4_search 2 none (47) G shX L S [.ref (ad L a0), .ref (ad L a1)] none q := by
  refine m_enter (lv := [(0, .ref (ad L a0)), (1, .ref (ad L a1))]) (plainFor_of_name (by decide)) (Nat.le_of_ble_eq_true rfl) rfl ?_
  intro p e s m below meth c A ls C hW hl
  unfold fX4_search at hf
  refine lv_aload_n C.1 C.2.1 dX4_search_0 rfl (lv_at hl 0 rfl) ?_
  refine lv_iconst C.1 C.2.1 dX4_search_1 ic_m1 ?_
  refine m_puti C hW ha0 fpX4_29 dX4_search_2 (fun H locs hW => ?_)
  refine lv_aload_n C.1 C.2.1 dX4_search_5 rfl (lv_at hl 0 rfl) ?_
  refine lv_aload_n C.1 C.2.1 dX4_search_6 rfl (lv_at hl 0 rfl) ?_
  refine m_getr C hW ha0 flX4_25 (by decide) dX4_search_7 (fun hk1 => ?_)
  refine m_getr C hW hk1 flX4_33 (by decide) dX4_search_10 (fun hk2 => ?_)
  refine lv_aload_n C.1 C.2.1 dX4_search_13 rfl (lv_at hl 1 rfl) ?_
  refine m_geti C hW ha1 flX4_39 dX4_search_14 ?_
  refine lv_iconst C.1 C.2.1 dX4_search_17 ic_m1 ?_
  refine lv_ixor C.1 C.2.1 dX4_search_18 ?_
  obtain ⟨q3, h4, hf⟩ := bd hf
  refine m_callV (As := [.int ((gI (pI S a0 4 (-1 : Int32)) a1 8) ^^^ (-1 : Int32))]) (rest := [.ref (ad L a0)]) C hW hk2 (cX8_worthOf_ok  hk2 h4) mlX4_42 (by decide) rfl hl.1 rfl (Nat.le_of_ble_eq_true rfl) (Nat.le_of_ble_eq_true rfl) (Nat.le_of_ble_eq_true rfl) dX4_search_19 (fun H locs hW => ?_)
  refine m_puti C hW ha0 fpX4_48 dX4_search_22 (fun H locs hW => ?_)
  refine lv_aload_n C.1 C.2.1 dX4_search_25 rfl (lv_at hl 0 rfl) ?_
  refine m_getr C hW ha0 flX4_21 (by decide) dX4_search_26 (fun hk5 => ?_)
  refine lv_iconst C.1 C.2.1 dX4_search_29 ic_0 ?_
  obtain ⟨hb6, hf⟩ := gd hf
  refine m_aald (kt := 9) C hW hk5 (by decide) hb6 dX4_search_30 (fun hk7 => ?_)
  refine lv_aload_n C.1 C.2.1 dX4_search_31 rfl (lv_at hl 1 rfl) ?_
  obtain ⟨q8, h9, hf⟩ := bd hf
  refine m_callV (As := [.ref (ad L a1)]) (rest := []) C hW hk7 (cX9_become_ok  hk7 ha1 h9) mlX4_51 (by decide) rfl hl.1 rfl (Nat.le_of_ble_eq_true rfl) (Nat.le_of_ble_eq_true rfl) (Nat.le_of_ble_eq_true rfl) dX4_search_32 (fun H locs hW => ?_)
  refine lv_aload_n C.1 C.2.1 dX4_search_35 rfl (lv_at hl 0 rfl) ?_
  refine lv_iconst C.1 C.2.1 dX4_search_36 ic_0 ?_
  obtain ⟨q10, h11, hf⟩ := bd hf
  refine m_callV (As := [.int (0 : Int32)]) (rest := []) C hW ha0 (cX4_lay_ok  ha0 h11) mlX4_55 (by decide) rfl hl.1 rfl (Nat.le_of_ble_eq_true rfl) (Nat.le_of_ble_eq_true rfl) (Nat.le_of_ble_eq_true rfl) dX4_search_37 (fun H locs hW => ?_)
  cases hf
  exact m_vret C hW dX4_search_40

def fX10_plan (a0 : Nat) (a1 : Int32) (S : MS) : Option (Int32 × MS) := (if a1 < (0 : Int32) then some ((-1 : Int32), S) else (if a1 ≤ (4 : Int32) then (fX4_search  (gR S a0 5) (gR S a0 9) S).bind fun q5 => (if a1 = (4 : Int32) then some (gI q5 (gR q5 a0 5) 4, q5) else (if bnd a1 (lnX (gR q5 (gR q5 a0 5) 0)) = true then some (gI q5 (gR q5 (gR q5 a0 5) 0) a1.toNatClampNeg, q5) else none)) else some ((-1 : Int32), S)))
set_option maxRecDepth 100000 in
theorem cX10_plan_ok {l : Launch} {G : Gv} {L : List Nat} {S : MS} {a0 : Nat} {a1 : Int32} {q : (Int32 × MS)} (ha0 : a0 < shX.1 ∧ shX.2.1 a0 = 10) (hf : fX10_plan a0 a1 S = some q) : Mt l yX10_plan cX10_plan 2 (some .int) (48) G shX L S [.ref (ad L a0), .int a1] (some (.int q.1)) q.2 := by
  refine m_enter (lv := [(0, .ref (ad L a0)), (1, .int a1)]) (plainFor_of_name (by decide)) (Nat.le_of_ble_eq_true rfl) rfl ?_
  intro p e s m below meth c A ls C hW hl
  unfold fX10_plan at hf
  refine lv_iload_n C.1 C.2.1 dX10_plan_0 rfl (lv_at hl 1 rfl) ?_
  refine lv_if_lt (tgt := 9) C.1 C.2.1 dX10_plan_1 rfl (fun c1 => ?_) (fun c1 => ?_)
  · have hf := (if_pos c1).symm.trans hf
    refine lv_iconst C.1 C.2.1 dX10_plan_9 ic_m1 ?_
    cases hf
    exact m_iret C hW dX10_plan_10
  · have hf := (if_neg c1).symm.trans hf
    refine lv_iload_n C.1 C.2.1 dX10_plan_4 rfl (lv_at hl 1 rfl) ?_
    refine lv_iconst C.1 C.2.1 dX10_plan_5 ic_4 ?_
    refine lv_icmp_le (tgt := 11) C.1 C.2.1 dX10_plan_6 rfl (fun c2 => ?_) (fun c2 => ?_)
    · have hf := (if_pos c2).symm.trans hf
      refine lv_aload_n C.1 C.2.1 dX10_plan_11 rfl (lv_at hl 0 rfl) ?_
      refine m_getr C hW ha0 flX10_44 (by decide) dX10_plan_12 (fun hk3 => ?_)
      refine lv_aload_n C.1 C.2.1 dX10_plan_15 rfl (lv_at hl 0 rfl) ?_
      refine m_getr C hW ha0 flX10_72 (by decide) dX10_plan_16 (fun hk4 => ?_)
      obtain ⟨q5, h6, hf⟩ := bd hf
      refine m_callV (As := [.ref (ad L (gR S a0 9))]) (rest := []) C hW hk3 (cX4_search_ok  hk3 hk4 h6) mlX10_310 (by decide) rfl hl.1 rfl (Nat.le_of_ble_eq_true rfl) (Nat.le_of_ble_eq_true rfl) (Nat.le_of_ble_eq_true rfl) dX10_plan_19 (fun H locs hW => ?_)
      refine lv_iload_n C.1 C.2.1 dX10_plan_22 rfl (lv_at hl 1 rfl) ?_
      refine lv_iconst C.1 C.2.1 dX10_plan_23 ic_4 ?_
      refine lv_icmp_ne (tgt := 37) C.1 C.2.1 dX10_plan_24 rfl (fun c7 => ?_) (fun c7 => ?_)
      · have hf := (if_neg c7).symm.trans hf
        refine lv_aload_n C.1 C.2.1 dX10_plan_37 rfl (lv_at hl 0 rfl) ?_
        refine m_getr C hW ha0 flX10_44 (by decide) dX10_plan_38 (fun hk8 => ?_)
        refine m_getr C hW hk8 flX10_316 (by decide) dX10_plan_41 (fun hk9 => ?_)
        refine lv_iload_n C.1 C.2.1 dX10_plan_44 rfl (lv_at hl 1 rfl) ?_
        obtain ⟨hb10, hf⟩ := gd hf
        refine m_iald C hW hk9 hb10 dX10_plan_45 ?_
        cases hf
        exact m_iret C hW dX10_plan_46
      · have hf := (if_pos c7).symm.trans hf
        refine lv_aload_n C.1 C.2.1 dX10_plan_27 rfl (lv_at hl 0 rfl) ?_
        refine m_getr C hW ha0 flX10_44 (by decide) dX10_plan_28 (fun hk11 => ?_)
        refine m_geti C hW hk11 flX10_313 dX10_plan_31 ?_
        refine lv_goto (tgt := 46) C.1 C.2.1 dX10_plan_34 rfl ?_
        cases hf
        exact m_iret C hW dX10_plan_46
    · have hf := (if_neg c2).symm.trans hf
      refine lv_iconst C.1 C.2.1 dX10_plan_9 ic_m1 ?_
      cases hf
      exact m_iret C hW dX10_plan_10

