/-! ===== the law's loop ===== -/
/-- what the pure part owes of every operation but doing -/
def SimAll (Inv : MS → MS → Prop) : Prop := Sim_0 Inv ∧ Sim_1 Inv ∧ Sim_2 Inv ∧ Sim_3 Inv ∧ Sim_4 Inv ∧ Sim_6 Inv ∧ Sim_7 Inv ∧ Sim_8 Inv ∧ Sim_9 Inv ∧ Sim_10 Inv ∧ Sim_11 Inv ∧ Sim_12 Inv ∧ Sim_13 Inv ∧ Sim_14 Inv ∧ Sim_15 Inv ∧ Sim_16 Inv ∧ Sim_17 Inv ∧ Sim_18 Inv ∧ Sim_19 Inv ∧ Sim_20 Inv ∧ Sim_21 Inv ∧ Sim_22 Inv ∧ Sim_23 Inv ∧ Sim_24 Inv ∧ Sim_25 Inv ∧ Sim_26 Inv ∧ Sim_27 Inv ∧ Sim_28 Inv ∧ Sim_29 Inv ∧ Sim_30 Inv ∧ Sim_31 Inv ∧ Sim_32 Inv
abbrev lwA (xs : Nat → Int32) (i j : Nat) : Int32 := xs (nI i + nI j).toNatClampNeg
/-- where the law stands at its head, or goes on -/
abbrev lwG (p : Program) (l : Launch) (e : Env) (s : State) (m : MethodId) (below : List Frame) (meth : Method) (c : Code) (b : Nat) (H : Heap) (locs : List Loc) (k n : Nat) (pc : Nat) (ls : Array Slot) : Prop := W p l e room_1 s m #[Value.ref b] below meth c H locs k n (lw_Z below #[Value.ref b] s) (F0 m pc ls [])
/-- the case of doing (closed behind) -/
def DoCase (p : Program) (l : Launch) (e : Env) (s : State) (m : MethodId) (below : List Frame) (meth : Method) (c : Code) (G : Gv) (aX aM o b L : Nat) (xs : Nat → Int32) (Inv : MS → MS → Prop) : Prop := ∀ (t i : Nat) (SX SM : MS) (f : Nat → Int64) (H : Heap) (locs : List Loc) (ls : Array Slot), t ≤ 512 → (∀ j : Nat, j < 6 → vp_in (nI i + nI j) L) → Inv SX SM → mL G aX aM o SX SM f s H locs → lv_has ls 7 [(0, .ref b), (1, .ref (ad (Lq aX 99) 0)), (2, .ref (ad (Lq aM 48) 0)), (3, .ref o), (4, .int (nI i))] →
  (∀ (SX SM : MS) (f : Nat → Int64) (H : Heap) (locs : List Loc) (ls : Array Slot), Inv SX SM → mL G aX aM o SX SM f s H locs → lv_has ls 7 [(0, .ref b), (1, .ref (ad (Lq aX 99) 0)), (2, .ref (ad (Lq aM 48) 0)), (3, .ref o), (4, .int (nI i))] → lwG p l e s m below meth c b H locs (310 + 10 * t) (200100 + 100 * t) 1378 ls) → lwG p l e s m below meth c b H locs (300 + 10 * t) (200000 + 100 * t) 373 ls
set_option maxRecDepth 100000 in
set_option maxHeartbeats 4000000 in
theorem law_loop {p : Program} {l : Launch} {e : Env} {s : State} {m : MethodId} {below : List Frame} {meth : Method} {c : Code} {G : Gv} {aX aM o b L : Nat} {xs : Nat → Int32} {Inv : MS → MS → Prop} (C : mC p s m #[Value.ref b] meth c code RL 7 ret) (hX : va_X b L xs s s.heap) (hbl : b < s.heap.size) (hL3 : L ≤ 3072) (hsim : SimAll Inv) (hdo : DoCase p l e s m below meth c G aX aM o b L xs Inv) :
    ∀ (n t i : Nat) (SX SM : MS) (f : Nat → Int64) (H : Heap) (locs : List Loc) (ls : Array Slot), i = 6 * t → t ≤ 512 → 513 ≤ t + n → Inv SX SM → mL G aX aM o SX SM f s H locs → lv_has ls 7 [(0, .ref b), (1, .ref (ad (Lq aX 99) 0)), (2, .ref (ad (Lq aM 48) 0)), (3, .ref o), (4, .int (nI i))] → lwG p l e s m below meth c b H locs (300 + 10 * t) (200000 + 100 * t) 23 ls := by
  intro n
  induction n with
  | zero => intro t i SX SM f H locs ls hi ht hn; omega
  | succ n ih =>
    intro t i SX SM f H locs ls hi ht hn hInv hL hl
    have hbA : ¬ (fun q : Nat => s.heap.size ≤ q) b := Nat.not_le.mpr hbl
    refine lv_iload C.1 C.2.1 dL_law_23 (lv_at hl 4 rfl) ?_
    refine lv_aload_n C.1 C.2.1 dL_law_25 rfl (lv_at hl 0 rfl) ?_
    refine va_slen C.1 C.2.1 hX hbl hbA hL.1.2.2.2.1 dL_law_26 ?_
    refine lv_bipush C.1 C.2.1 dL_law_27 (v := 6) (by decide) ?_
    refine lv_isub C.1 C.2.1 dL_law_29 ?_
    have e1 : (Int32.ofNat L - 6).toInt = (L : Int) - 6 := pk_sub_toInt (a := L) (b := 6) (by omega) (by decide)
    have e2 : (nI i).toInt = (i : Int) := nI_toInt (by omega)
    refine lv_icmp_gt (tgt := 1384) C.1 C.2.1 dL_law_30 rfl (fun c1 => ?_) (fun c1 => ?_)
    · refine lv_iconst (v := 1) C.1 C.2.1 dL_law_1384 (by decide) ?_
      refine va_forget (fun q hq => hL.1.2.2.2.1.2.2 q hq) ?_
      refine W.widen (k := 601024) (n := 7293034) (by omega) (by omega) ?_
      exact lw_ret C.1 C.2.1 C.2.2.2.2.2.1 C.2.2.2.2.2.2 dL_law_1385
    · have hi6 : i + 6 ≤ L := by
        rw [Int32.lt_iff_toInt_lt, e1, e2] at c1
        omega
      have hin : ∀ j : Nat, j < 6 → vp_in (nI i + nI j) L := fun j hj => by
        rw [nI_add]; exact vp_in_nI (by omega) (by omega)
      have cont : ∀ (SX SM : MS) (f : Nat → Int64) (H : Heap) (locs : List Loc) (ls : Array Slot), Inv SX SM → mL G aX aM o SX SM f s H locs → lv_has ls 7 [(0, .ref b), (1, .ref (ad (Lq aX 99) 0)), (2, .ref (ad (Lq aM 48) 0)), (3, .ref o), (4, .int (nI i))] → lwG p l e s m below meth c b H locs (310 + 10 * t) (200100 + 100 * t) 1378 ls := by
        intro SX SM f H locs ls hInv hL hl
        refine lv_iinc (v := nI (i + 6)) (lv' := [(4, .int (nI (i + 6))), (0, .ref b), (1, .ref (ad (Lq aX 99) 0)), (2, .ref (ad (Lq aM 48) 0)), (3, .ref o)]) C.1 C.2.1 dL_law_1378 hl (k := 4) rfl (by rw [← nI_add]; rfl) (by decide) rfl (fun ls hl => ?_)
        refine lv_goto (tgt := 23) C.1 C.2.1 dL_law_1381 rfl ?_
        refine W.widen (k := 300 + 10 * (t + 1)) (n := 200000 + 100 * (t + 1)) (by omega) (by omega) ?_
        exact ih (t + 1) (i + 6) SX SM f H locs ls (by omega) (by omega) (by omega) hInv hL (lv_sub hl [1, 2, 3, 4, 0] rfl)
      have cont0 : ∀ (SX SM : MS) (f : Nat → Int64) (H : Heap) (locs : List Loc) (ls : Array Slot), Inv SX SM → mL G aX aM o SX SM f s H locs → lv_has ls 7 [(0, .ref b), (1, .ref (ad (Lq aX 99) 0)), (2, .ref (ad (Lq aM 48) 0)), (3, .ref o), (4, .int (nI i))] → lwG p l e s m below meth c b H locs (300 + 10 * t) (200000 + 100 * t) 1378 ls := fun SX SM f H locs ls h1 h2 h3 => W.widen (by omega) (by omega) (cont SX SM f H locs ls h1 h2 h3)
      refine lv_aload_n C.1 C.2.1 dL_law_33 rfl (lv_at hl 0 rfl) ?_
      refine lv_iload C.1 C.2.1 dL_law_34 (lv_at hl 4 rfl) ?_
      refine va_sld C.1 C.2.1 hX hbl hbA hL.1.2.2.2.1 (vp_in_nI (by omega) (by omega)) dL_law_36 ?_
      refine lv_bipush C.1 C.2.1 dL_law_37 (v := 63) (by decide) ?_
      refine lv_iand C.1 C.2.1 dL_law_39 ?_
      generalize xs (nI i).toNatClampNeg &&& 63 = y
      by_cases c0 : y = 0
      · refine lv_tableIn (tgt := 188) C.1 C.2.1 dL_law_40 (by rw [c0]; decide) (by rw [c0]; decide) (by rw [c0]; rfl) rfl ?_
        obtain ⟨qX, qM, h1, h2, h3, h4⟩ := hsim.1 SX SM (lwA xs i 1) (lwA xs i 2) (lwA xs i 3) (lwA xs i 4) (lwA xs i 5) hInv
        exact law_0 C hX hbl ht hin hL hl h1 h2 h3 h4 cont0
      by_cases c1 : y = 1
      · refine lv_tableIn (tgt := 261) C.1 C.2.1 dL_law_40 (by rw [c1]; decide) (by rw [c1]; decide) (by rw [c1]; rfl) rfl ?_
        obtain ⟨qX, qM, h1, h2, h3, h4⟩ := hsim.2.1 SX SM (lwA xs i 1) hInv
        exact law_1 C hX hbl ht hin hL hl h1 h2 h3 h4 cont0
      by_cases c2 : y = 2
      · refine lv_tableIn (tgt := 286) C.1 C.2.1 dL_law_40 (by rw [c2]; decide) (by rw [c2]; decide) (by rw [c2]; rfl) rfl ?_
        obtain ⟨qX, qM, h1, h2, h3, h4⟩ := hsim.2.2.1 SX SM (lwA xs i 1) hInv
        exact law_2 C hX hbl ht hin hL hl h1 h2 h3 h4 cont0
      by_cases c3 : y = 3
      · refine lv_tableIn (tgt := 311) C.1 C.2.1 dL_law_40 (by rw [c3]; decide) (by rw [c3]; decide) (by rw [c3]; rfl) rfl ?_
        obtain ⟨qX, qM, h1, h2, h3, h4⟩ := hsim.2.2.2.1 SX SM (lwA xs i 1) (lwA xs i 2) hInv
        exact law_3 C hX hbl ht hin hL hl h1 h2 h3 h4 cont0
      by_cases c4 : y = 4
      · refine lv_tableIn (tgt := 348) C.1 C.2.1 dL_law_40 (by rw [c4]; decide) (by rw [c4]; decide) (by rw [c4]; rfl) rfl ?_
        obtain ⟨qX, qM, h1, h2, h3, h4⟩ := hsim.2.2.2.2.1 SX SM (lwA xs i 1) hInv
        exact law_4 C hX hbl ht hin hL hl h1 h2 h3 h4 cont0
      by_cases c5 : y = 5
      · refine lv_tableIn (tgt := 373) C.1 C.2.1 dL_law_40 (by rw [c5]; decide) (by rw [c5]; decide) (by rw [c5]; rfl) rfl ?_
        exact hdo t i SX SM f H locs ls ht hin hInv hL hl cont
      by_cases c6 : y = 6
      · refine lv_tableIn (tgt := 441) C.1 C.2.1 dL_law_40 (by rw [c6]; decide) (by rw [c6]; decide) (by rw [c6]; rfl) rfl ?_
        obtain ⟨qX, qM, h1, h2, h3, h4⟩ := hsim.2.2.2.2.2.1 SX SM (lwA xs i 1) (lwA xs i 2) hInv
        exact law_6 C hX hbl ht hin hL hl h1 h2 h3 h4 cont0
      by_cases c7 : y = 7
      · refine lv_tableIn (tgt := 478) C.1 C.2.1 dL_law_40 (by rw [c7]; decide) (by rw [c7]; decide) (by rw [c7]; rfl) rfl ?_
        obtain ⟨qX, qM, h1, h2, h3, h4⟩ := hsim.2.2.2.2.2.2.1 SX SM (lwA xs i 1) (lwA xs i 2) hInv
        exact law_7 C hX hbl ht hin hL hl h1 h2 h3 h4 cont0
      by_cases c8 : y = 8
      · refine lv_tableIn (tgt := 515) C.1 C.2.1 dL_law_40 (by rw [c8]; decide) (by rw [c8]; decide) (by rw [c8]; rfl) rfl ?_
        obtain ⟨qX, qM, h1, h2, h3, h4⟩ := hsim.2.2.2.2.2.2.2.1 SX SM (lwA xs i 1) (lwA xs i 2) hInv
        exact law_8 C hX hbl ht hin hL hl h1 h2 h3 h4 cont0
      by_cases c9 : y = 9
      · refine lv_tableIn (tgt := 552) C.1 C.2.1 dL_law_40 (by rw [c9]; decide) (by rw [c9]; decide) (by rw [c9]; rfl) rfl ?_
        obtain ⟨qX, qM, h1, h2, h3, h4⟩ := hsim.2.2.2.2.2.2.2.2.1 SX SM (lwA xs i 1) (lwA xs i 2) hInv
        exact law_9 C hX hbl ht hin hL hl h1 h2 h3 h4 cont0
      by_cases c10 : y = 10
      · refine lv_tableIn (tgt := 590) C.1 C.2.1 dL_law_40 (by rw [c10]; decide) (by rw [c10]; decide) (by rw [c10]; rfl) rfl ?_
        obtain ⟨qX, qM, h1, h2, h3, h4⟩ := hsim.2.2.2.2.2.2.2.2.2.1 SX SM (lwA xs i 1) hInv
        exact law_10 C hX hbl ht hin hL hl h1 h2 h3 h4 cont0
      by_cases c11 : y = 11
      · refine lv_tableIn (tgt := 615) C.1 C.2.1 dL_law_40 (by rw [c11]; decide) (by rw [c11]; decide) (by rw [c11]; rfl) rfl ?_
        obtain ⟨qX, qM, h1, h2, h3, h4⟩ := hsim.2.2.2.2.2.2.2.2.2.2.1 SX SM (lwA xs i 1) (lwA xs i 2) hInv
        exact law_11 C hX hbl ht hin hL hl h1 h2 h3 h4 cont0
      by_cases c12 : y = 12
      · refine lv_tableIn (tgt := 668) C.1 C.2.1 dL_law_40 (by rw [c12]; decide) (by rw [c12]; decide) (by rw [c12]; rfl) rfl ?_
        obtain ⟨qX, qM, h1, h2, h3, h4⟩ := hsim.2.2.2.2.2.2.2.2.2.2.2.1 SX SM (lwA xs i 1) hInv
        exact law_12 C hX hbl ht hin hL hl h1 h2 h3 h4 cont0
      by_cases c13 : y = 13
      · refine lv_tableIn (tgt := 693) C.1 C.2.1 dL_law_40 (by rw [c13]; decide) (by rw [c13]; decide) (by rw [c13]; rfl) rfl ?_
        obtain ⟨qX, qM, h1, h2, h3, h4⟩ := hsim.2.2.2.2.2.2.2.2.2.2.2.2.1 SX SM (lwA xs i 1) hInv
        exact law_13 C hX hbl ht hin hL hl h1 h2 h3 h4 cont0
      by_cases c14 : y = 14
      · refine lv_tableIn (tgt := 718) C.1 C.2.1 dL_law_40 (by rw [c14]; decide) (by rw [c14]; decide) (by rw [c14]; rfl) rfl ?_
        obtain ⟨qX, qM, h1, h2, h3, h4⟩ := hsim.2.2.2.2.2.2.2.2.2.2.2.2.2.1 SX SM (lwA xs i 1) (lwA xs i 2) hInv
        exact law_14 C hX hbl ht hin hL hl h1 h2 h3 h4 cont0
      by_cases c15 : y = 15
      · refine lv_tableIn (tgt := 755) C.1 C.2.1 dL_law_40 (by rw [c15]; decide) (by rw [c15]; decide) (by rw [c15]; rfl) rfl ?_
        obtain ⟨qX, qM, h1, h2, h3, h4⟩ := hsim.2.2.2.2.2.2.2.2.2.2.2.2.2.2.1 SX SM (lwA xs i 1) hInv
        exact law_15 C hX hbl ht hin hL hl h1 h2 h3 h4 cont0
      by_cases c16 : y = 16
      · refine lv_tableIn (tgt := 780) C.1 C.2.1 dL_law_40 (by rw [c16]; decide) (by rw [c16]; decide) (by rw [c16]; rfl) rfl ?_
        obtain ⟨qX, qM, h1, h2, h3, h4⟩ := hsim.2.2.2.2.2.2.2.2.2.2.2.2.2.2.2.1 SX SM (lwA xs i 1) (lwA xs i 2) hInv
        exact law_16 C hX hbl ht hin hL hl h1 h2 h3 h4 cont0
      by_cases c17 : y = 17
      · refine lv_tableIn (tgt := 817) C.1 C.2.1 dL_law_40 (by rw [c17]; decide) (by rw [c17]; decide) (by rw [c17]; rfl) rfl ?_
        obtain ⟨qX, qM, h1, h2, h3, h4⟩ := hsim.2.2.2.2.2.2.2.2.2.2.2.2.2.2.2.2.1 SX SM (lwA xs i 1) (lwA xs i 2) (lwA xs i 3) hInv
        exact law_17 C hX hbl ht hin hL hl h1 h2 h3 h4 cont0
      by_cases c18 : y = 18
      · refine lv_tableIn (tgt := 866) C.1 C.2.1 dL_law_40 (by rw [c18]; decide) (by rw [c18]; decide) (by rw [c18]; rfl) rfl ?_
        obtain ⟨qX, qM, h1, h2, h3, h4⟩ := hsim.2.2.2.2.2.2.2.2.2.2.2.2.2.2.2.2.2.1 SX SM (lwA xs i 1) (lwA xs i 2) hInv
        exact law_18 C hX hbl ht hin hL hl h1 h2 h3 h4 cont0
      by_cases c19 : y = 19
      · refine lv_tableIn (tgt := 903) C.1 C.2.1 dL_law_40 (by rw [c19]; decide) (by rw [c19]; decide) (by rw [c19]; rfl) rfl ?_
        obtain ⟨qX, qM, h1, h2, h3, h4⟩ := hsim.2.2.2.2.2.2.2.2.2.2.2.2.2.2.2.2.2.2.1 SX SM (lwA xs i 1) hInv
        exact law_19 C hX hbl ht hin hL hl h1 h2 h3 h4 cont0
      by_cases c20 : y = 20
      · refine lv_tableIn (tgt := 928) C.1 C.2.1 dL_law_40 (by rw [c20]; decide) (by rw [c20]; decide) (by rw [c20]; rfl) rfl ?_
        obtain ⟨qX, qM, h1, h2, h3, h4⟩ := hsim.2.2.2.2.2.2.2.2.2.2.2.2.2.2.2.2.2.2.2.1 SX SM (lwA xs i 1) (lwA xs i 2) hInv
        exact law_20 C hX hbl ht hin hL hl h1 h2 h3 h4 cont0
      by_cases c21 : y = 21
      · refine lv_tableIn (tgt := 965) C.1 C.2.1 dL_law_40 (by rw [c21]; decide) (by rw [c21]; decide) (by rw [c21]; rfl) rfl ?_
        obtain ⟨qX, qM, h1, h2, h3, h4⟩ := hsim.2.2.2.2.2.2.2.2.2.2.2.2.2.2.2.2.2.2.2.2.1 SX SM (lwA xs i 1) (lwA xs i 2) (lwA xs i 3) hInv
        exact law_21 C hX hbl ht hin hL hl h1 h2 h3 h4 cont0
      by_cases c22 : y = 22
      · refine lv_tableIn (tgt := 1014) C.1 C.2.1 dL_law_40 (by rw [c22]; decide) (by rw [c22]; decide) (by rw [c22]; rfl) rfl ?_
        obtain ⟨qX, qM, h1, h2, h3, h4⟩ := hsim.2.2.2.2.2.2.2.2.2.2.2.2.2.2.2.2.2.2.2.2.2.1 SX SM (lwA xs i 1) (lwA xs i 2) hInv
        exact law_22 C hX hbl ht hin hL hl h1 h2 h3 h4 cont0
      by_cases c23 : y = 23
      · refine lv_tableIn (tgt := 1052) C.1 C.2.1 dL_law_40 (by rw [c23]; decide) (by rw [c23]; decide) (by rw [c23]; rfl) rfl ?_
        obtain ⟨qX, qM, h1, h2, h3, h4⟩ := hsim.2.2.2.2.2.2.2.2.2.2.2.2.2.2.2.2.2.2.2.2.2.2.1 SX SM (lwA xs i 1) (lwA xs i 2) (lwA xs i 3) (lwA xs i 4) (lwA xs i 5) hInv
        exact law_23 C hX hbl ht hin hL hl h1 h2 h3 h4 cont0
      by_cases c24 : y = 24
      · refine lv_tableIn (tgt := 1141) C.1 C.2.1 dL_law_40 (by rw [c24]; decide) (by rw [c24]; decide) (by rw [c24]; rfl) rfl ?_
        obtain ⟨qX, qM, h1, h2, h3, h4⟩ := hsim.2.2.2.2.2.2.2.2.2.2.2.2.2.2.2.2.2.2.2.2.2.2.2.1 SX SM (lwA xs i 1) hInv
        exact law_24 C hX hbl ht hin hL hl h1 h2 h3 h4 cont0
      by_cases c25 : y = 25
      · refine lv_tableIn (tgt := 1166) C.1 C.2.1 dL_law_40 (by rw [c25]; decide) (by rw [c25]; decide) (by rw [c25]; rfl) rfl ?_
        obtain ⟨qX, qM, h1, h2, h3, h4⟩ := hsim.2.2.2.2.2.2.2.2.2.2.2.2.2.2.2.2.2.2.2.2.2.2.2.2.1 SX SM (lwA xs i 1) hInv
        exact law_25 C hX hbl ht hin hL hl h1 h2 h3 h4 cont0
      by_cases c26 : y = 26
      · refine lv_tableIn (tgt := 1191) C.1 C.2.1 dL_law_40 (by rw [c26]; decide) (by rw [c26]; decide) (by rw [c26]; rfl) rfl ?_
        obtain ⟨qX, qM, h1, h2, h3, h4⟩ := hsim.2.2.2.2.2.2.2.2.2.2.2.2.2.2.2.2.2.2.2.2.2.2.2.2.2.1 SX SM (lwA xs i 1) hInv
        exact law_26 C hX hbl ht hin hL hl h1 h2 h3 h4 cont0
      by_cases c27 : y = 27
      · refine lv_tableIn (tgt := 1216) C.1 C.2.1 dL_law_40 (by rw [c27]; decide) (by rw [c27]; decide) (by rw [c27]; rfl) rfl ?_
        obtain ⟨qX, qM, h1, h2, h3, h4⟩ := hsim.2.2.2.2.2.2.2.2.2.2.2.2.2.2.2.2.2.2.2.2.2.2.2.2.2.2.1 SX SM (lwA xs i 1) (lwA xs i 2) (lwA xs i 3) hInv
        exact law_27 C hX hbl ht hin hL hl h1 h2 h3 h4 cont0
      by_cases c28 : y = 28
      · refine lv_tableIn (tgt := 1265) C.1 C.2.1 dL_law_40 (by rw [c28]; decide) (by rw [c28]; decide) (by rw [c28]; rfl) rfl ?_
        obtain ⟨qX, qM, h1, h2, h3, h4⟩ := hsim.2.2.2.2.2.2.2.2.2.2.2.2.2.2.2.2.2.2.2.2.2.2.2.2.2.2.2.1 SX SM (lwA xs i 1) (lwA xs i 2) (lwA xs i 3) hInv
        exact law_28 C hX hbl ht hin hL hl h1 h2 h3 h4 cont0
      by_cases c29 : y = 29
      · refine lv_tableIn (tgt := 1314) C.1 C.2.1 dL_law_40 (by rw [c29]; decide) (by rw [c29]; decide) (by rw [c29]; rfl) rfl ?_
        obtain ⟨qX, qM, h1, h2, h3, h4⟩ := hsim.2.2.2.2.2.2.2.2.2.2.2.2.2.2.2.2.2.2.2.2.2.2.2.2.2.2.2.2.1 SX SM  hInv
        exact law_29 C hX hbl ht hin hL hl h1 h2 h3 h4 cont0
      by_cases c30 : y = 30
      · refine lv_tableIn (tgt := 1327) C.1 C.2.1 dL_law_40 (by rw [c30]; decide) (by rw [c30]; decide) (by rw [c30]; rfl) rfl ?_
        obtain ⟨qX, qM, h1, h2, h3, h4⟩ := hsim.2.2.2.2.2.2.2.2.2.2.2.2.2.2.2.2.2.2.2.2.2.2.2.2.2.2.2.2.2.1 SX SM  hInv
        exact law_30 C hX hbl ht hin hL hl h1 h2 h3 h4 cont0
      by_cases c31 : y = 31
      · refine lv_tableIn (tgt := 1340) C.1 C.2.1 dL_law_40 (by rw [c31]; decide) (by rw [c31]; decide) (by rw [c31]; rfl) rfl ?_
        obtain ⟨qX, qM, h1, h2, h3, h4⟩ := hsim.2.2.2.2.2.2.2.2.2.2.2.2.2.2.2.2.2.2.2.2.2.2.2.2.2.2.2.2.2.2.1 SX SM  hInv
        exact law_31 C hX hbl ht hin hL hl h1 h2 h3 h4 cont0
      by_cases c32 : y = 32
      · refine lv_tableIn (tgt := 1353) C.1 C.2.1 dL_law_40 (by rw [c32]; decide) (by rw [c32]; decide) (by rw [c32]; rfl) rfl ?_
        obtain ⟨qX, qM, h1, h2, h3, h4⟩ := hsim.2.2.2.2.2.2.2.2.2.2.2.2.2.2.2.2.2.2.2.2.2.2.2.2.2.2.2.2.2.2.2 SX SM (lwA xs i 1) hInv
        exact law_32 C hX hbl ht hin hL hl h1 h2 h3 h4 cont0
      have ho : y.toInt < 0 ∨ 32 < y.toInt := by
        have := tn_e c0 0 (by decide)
        have := tn_e c1 1 (by decide)
        have := tn_e c2 2 (by decide)
        have := tn_e c3 3 (by decide)
        have := tn_e c4 4 (by decide)
        have := tn_e c5 5 (by decide)
        have := tn_e c6 6 (by decide)
        have := tn_e c7 7 (by decide)
        have := tn_e c8 8 (by decide)
        have := tn_e c9 9 (by decide)
        have := tn_e c10 10 (by decide)
        have := tn_e c11 11 (by decide)
        have := tn_e c12 12 (by decide)
        have := tn_e c13 13 (by decide)
        have := tn_e c14 14 (by decide)
        have := tn_e c15 15 (by decide)
        have := tn_e c16 16 (by decide)
        have := tn_e c17 17 (by decide)
        have := tn_e c18 18 (by decide)
        have := tn_e c19 19 (by decide)
        have := tn_e c20 20 (by decide)
        have := tn_e c21 21 (by decide)
        have := tn_e c22 22 (by decide)
        have := tn_e c23 23 (by decide)
        have := tn_e c24 24 (by decide)
        have := tn_e c25 25 (by decide)
        have := tn_e c26 26 (by decide)
        have := tn_e c27 27 (by decide)
        have := tn_e c28 28 (by decide)
        have := tn_e c29 29 (by decide)
        have := tn_e c30 30 (by decide)
        have := tn_e c31 31 (by decide)
        have := tn_e c32 32 (by decide)
        omega
      refine lv_tableOut (tgt := 1378) C.1 C.2.1 dL_law_40 ho rfl ?_
      exact cont0 SX SM f H locs ls hInv hL hl
