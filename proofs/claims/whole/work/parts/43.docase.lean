/-! ===== the law's case of doing ===== -/
def Sim_5 (Inv : MS → MS → Prop) : Prop := ∀ (SX SM : MS) (z0 z1 : Int32), Inv SX SM → ∃ (q : Int32 × Int32) (qM : Int32 × MS), fX10_doing 0 z0 z1 SX = some q ∧ fX11_doing 0 z0 z1 SM = some qM ∧ fX11_thrown 0 qM.2 = some q.1 ∧ (q.1 = 0 → q.2 = qM.1) ∧ Inv SX qM.2
theorem mlL_48 : mLm RL 48 11 yX11_doing cX11_doing 3 (some .int) 2 := ⟨RX11, TX11, 74, rfl, rfl, (Or.inl (gm_8 23 rfl rfl)), gm_8 24 rfl rfl, gm_8 25 rfl rfl, gm_1 17 rfl rfl, gm_8 26 rfl rfl, by decide +kernel⟩
theorem mlL_49 : mLm RL 49 11 yX11_thrown cX11_thrown 1 (some .int) 0 := ⟨RX11, TX11, 74, rfl, rfl, (Or.inl (gm_7 34 rfl rfl)), gm_7 35 rfl rfl, gm_7 36 rfl rfl, gm_1 17 rfl rfl, gm_7 37 rfl rfl, by decide +kernel⟩
theorem sd_ws : GoodIn gtbl (va_wsS RL 43 yL_doing (.codeWith yL_doing cL_doing 5 (some .int) sdH :: gtbl)) := by
  intro w hw
  have hm : w ∈ gtbl := by
    rcases List.mem_cons.mp hw with rfl | hw
    · exact gm_5 186 rfl rfl
    rcases List.mem_cons.mp hw with rfl | hw
    · exact gm_5 187 rfl rfl
    rcases List.mem_cons.mp hw with rfl | hw
    · exact gm_1 0 rfl rfl
    rcases List.mem_cons.mp hw with rfl | hw
    · exact gm_5 188 rfl rfl
    · exact hw
  exact ⟨hm, good_of_word (List.mem_filter.mp hm).2⟩
set_option maxRecDepth 100000 in
set_option maxHeartbeats 4000000 in
theorem do_case {p : Program} {l : Launch} {e : Env} {s : State} {m : MethodId} {below : List Frame} {meth : Method} {c : Code} {G : Gv} {aX aM o b L : Nat} {xs : Nat → Int32} {Inv : MS → MS → Prop} (C : mC p s m #[Value.ref b] meth c code RL 7 ret) (hX : va_X b L xs s s.heap) (hbl : b < s.heap.size) (hst : l.stackTraces = false) (hEx : mEx (fun q => s.heap.size ≤ q) s s.heap) (hNc : va_Nc eNS eIO s) (hsim : Sim_5 Inv) :
    DoCase p l e s m below meth c G aX aM o b L xs Inv := by
  intro t i SX SM f H locs ls ht hin hInv hL hl cont
  obtain ⟨q, qM, hf, hfM, hth, heq, hInv'⟩ := hsim SX SM (xs ((nI i) + (1 : Int32)).toNatClampNeg) (xs ((nI i) + (2 : Int32)).toNatClampNeg) hInv
  refine lv_aload_n C.1 C.2.1 dL_law_373 rfl (lv_at hl 1 rfl) ?_
  refine lv_aload_n C.1 C.2.1 dL_law_374 rfl (lv_at hl 0 rfl) ?_
  refine lv_iload C.1 C.2.1 dL_law_375 (lv_at hl 4 rfl) ?_
  refine lv_iconst C.1 C.2.1 dL_law_377 ic_1 ?_
  refine lv_iadd C.1 C.2.1 dL_law_378 ?_
  refine va_sld C.1 C.2.1 hX hbl (Nat.not_le.mpr hbl) hL.1.2.2.2.1 (hin 1 (by decide)) dL_law_379 ?_
  refine lv_aload_n C.1 C.2.1 dL_law_380 rfl (lv_at hl 0 rfl) ?_
  refine lv_iload C.1 C.2.1 dL_law_381 (lv_at hl 4 rfl) ?_
  refine lv_iconst C.1 C.2.1 dL_law_383 ic_2 ?_
  refine lv_iadd C.1 C.2.1 dL_law_384 ?_
  refine va_sld C.1 C.2.1 hX hbl (Nat.not_le.mpr hbl) hL.1.2.2.2.1 (hin 2 (by decide)) dL_law_385 ?_
  refine lv_aload_n C.1 C.2.1 dL_law_386 rfl (lv_at hl 3 rfl) ?_
  have hlt := mL_lt hL
  have hnoX : ¬ mA shX (Lq aX 99) H.size o := notX hlt.2.1 (by have := hL.2.2.2; omega)
  have hos : s.heap.size ≤ o := by have := hL.2.2.2; omega
  have hfr : ∀ q, sdA (Lq aX 99) H.size o q → s.heap.size ≤ q := fun q h => by
    rcases h with h | rfl
    · exact mA_free hL.1 q h
    · exact hos
  have hpre : ∀ U : State, U.heap = H → s.WarmedH U.vm → sdPc G (Lq aX 99) SX f [.ref (ad (Lq aX 99) 0), .int (xs ((nI i) + (1 : Int32)).toNatClampNeg), .int (xs ((nI i) + (2 : Int32)).toNatClampNeg), .ref o] H.size o ([.ref (ad (Lq aX 99) 0), .int (xs ((nI i) + (1 : Int32)).toNatClampNeg), .int (xs ((nI i) + (2 : Int32)).toNatClampNeg), .ref o] : List Value).toArray U := by
    intro U hU hw
    obtain ⟨hK, hP, hD, hS, hT, -, hN, hE⟩ := hL.1
    refine ⟨rfl, by rw [hU], ⟨va_K.moved hw.alike hK, by rw [hU]; exact hP, ⟨hD.1, fun _ _ _ => trivial⟩, hT, hN.warm hw⟩, ?_, ?_, hNc.moved hw.alike, by rw [hU]; exact hL.2.2.1, hnoX⟩
    · rw [hU]
      exact ((hE.kept (fun a h1 h2 => hS.2.1 a h1 h2)).narrow hfr).warm hw
    · rw [hU]
      exact ((hEx.kept (fun a h1 h2 => hS.2.1 a h1 h2)).narrow hfr).warm hw
  have hrun := vx_runSW (l := l) (e := e) (below := below) (meth := meth) (locs := locs) (cells := 300 + 10 * t) (slots := 200000 + 100 * t) (R := room_1) (g := F0 m 387 ls [.ref o, .int (xs ((nI i) + (2 : Int32)).toNatClampNeg), .int (xs ((nI i) + (1 : Int32)).toNatClampNeg), .ref (ad (Lq aX 99) 0)]) (As := [.ref (ad (Lq aX 99) 0), .int (xs ((nI i) + (1 : Int32)).toNatClampNeg), .int (xs ((nI i) + (2 : Int32)).toNatClampNeg), .ref o]) (rest := []) ⟨C.1, C.2.1, C.2.2.1, C.2.2.2.1, C.2.2.2.2.1⟩ (cL_doing_ok hst (G := G) (L := Lq aX 99) (f := f) (o := o) hf H.size) (vx_cwSW (hh := sdH) (bytes := cL_doing) (maxL := 5) (ret := some .int) 4 C.2.2.2.2.1 sd_ws rfl rfl rfl (by decide +kernel) ⟨Nat.le_of_ble_eq_true rfl, Nat.le_of_ble_eq_true rfl⟩) ⟨sd_blind, hpre⟩ rfl rfl hl.1 rfl (lv_room (Nat.le_of_ble_eq_true rfl)) dL_law_387 ⟨by show 300 + 10 * t + 1 ≤ 601024; omega, by show 200000 + 100 * t + 6 ≤ 7293034; omega⟩
  refine va_calli (A0 := fun q => s.heap.size ≤ q) hrun hL.1.2.2.2.1 (fun q _ h => hfr q h) hfr ?_
  intro r u tt H1 locs1 htt hal hr hB hz hk hS
  subst hr
  obtain ⟨hHo, f1, ho1, hf1⟩ := hB
  rw [htt] at ho1
  have hL1 : mL G aX aM o SX SM f1 s H1 locs1 := by
    obtain ⟨hK, hP, hD, -, hT, hA, hN, hE⟩ := hL.1
    obtain ⟨-, hP', hD', hT', -⟩ := hHo
    rw [htt] at hP'
    refine ⟨⟨hK, hP', hD, hS, hT, hA, hN, hE⟩, ?_, ho1, hL.2.2.2⟩
    obtain ⟨hK2, hP2, hD2, -, hT2, hA2, hN2, hE2⟩ := hL.2.1
    refine ⟨hK2, hP2.kept (fun k q hq => ?_), hD2, hS, hT2, hA2, hN2, hE2⟩
    have h1 := mws_at hq
    rw [h1.2]
    have h48 : k < 48 := h1.1
    have had := ad_Lq (B := aM) h48
    refine hk _ (hlt.1 k h48) (fun h => ?_)
    rcases h with h | h
    · exact notX (hlt.1 k h48) (by rw [had]; have := hL.2.2.2; omega) h
    · have := hL.2.2.2; omega
  refine lv_istore (lv' := [(5, .int q.1), (0, .ref b), (1, .ref (ad (Lq aX 99) 0)), (2, .ref (ad (Lq aM 48) 0)), (3, .ref o), (4, .int (nI i))]) C.1 C.2.1 dL_law_390 hl (by decide) rfl (fun ls hl => ?_)
  refine lv_aload_n C.1 C.2.1 dL_law_392 rfl (lv_at hl 3 rfl) ?_
  refine lv_aload_n C.1 C.2.1 dL_law_393 rfl (lv_at hl 1 rfl) ?_
  refine lv_iload C.1 C.2.1 dL_law_394 (lv_at hl 5 rfl) ?_
  refine lv_iconst C.1 C.2.1 dL_law_396 ic_1 ?_
  refine lv_iadd C.1 C.2.1 dL_law_397 ?_
  refine va_sld C.1 C.2.1 hX hbl (Nat.not_le.mpr hbl) hL1.1.2.2.2.1 (hin 1 (by decide)) dL_law_398 ?_
  refine lv_aload_n C.1 C.2.1 dL_law_399 rfl (lv_at hl 1 rfl) ?_
  refine lv_iload C.1 C.2.1 dL_law_400 (lv_at hl 5 rfl) ?_
  refine lv_iconst C.1 C.2.1 dL_law_402 ic_2 ?_
  refine lv_iadd C.1 C.2.1 dL_law_403 ?_
  refine va_sld C.1 C.2.1 hX hbl (Nat.not_le.mpr hbl) hL1.1.2.2.2.1 (hin 2 (by decide)) dL_law_404 ?_
  refine l_callM (As := [.int (xs ((nI i) + (1 : Int32)).toNatClampNeg), .int (xs ((nI i) + (2 : Int32)).toNatClampNeg)]) (rest := []) C hL1 (cX11_doing_ok (by decide) hfM) mlL_48 rfl hl.1 rfl (Nat.le_of_ble_eq_true rfl) (Nat.le_of_ble_eq_true rfl) (Nat.le_of_ble_eq_true rfl) (by show 300 + 10 * t + 1 ≤ 601024; omega) (by show 200000 + 100 * t + 6 ≤ 7293034; omega) dL_law_405 (fun H locs hL => ?_)
  refine lv_istore (lv' := [(6, .int qM.1), (5, .int q.1), (0, .ref b), (1, .ref (ad (Lq aX 99) 0)), (2, .ref (ad (Lq aM 48) 0)), (3, .ref o), (4, .int (nI i))]) C.1 C.2.1 dL_law_408 hl (by decide) rfl (fun ls hl => ?_)
  refine lv_aload_n C.1 C.2.1 dL_law_410 rfl (lv_at hl 4 rfl) ?_
  refine l_callM (As := []) (rest := []) C hL (cX11_thrown_ok (by decide) hth) mlL_49 rfl hl.1 rfl (Nat.le_of_ble_eq_true rfl) (Nat.le_of_ble_eq_true rfl) (Nat.le_of_ble_eq_true rfl) (by show 300 + 10 * t + 1 ≤ 601024; omega) (by show 200000 + 100 * t + 6 ≤ 7293034; omega) dL_law_411 (fun H locs hL => ?_)
  refine lv_iload C.1 C.2.1 dL_law_414 (lv_at hl 1 rfl) ?_
  refine lv_icmp_eq (tgt := 421) C.1 C.2.1 dL_law_416 rfl (fun _ => ?_) (fun h => absurd rfl h)
  refine lv_iload C.1 C.2.1 dL_law_421 (lv_at hl 1 rfl) ?_
  have fin : Nat → lwG p l e s m below meth c b H locs (310 + 10 * t) (200100 + 100 * t) 1378 ls := fun _ => cont SX qM.2 f1 H locs ls hInv' hL (lv_sub hl [2, 3, 4, 5, 6] rfl)
  refine lv_if_ne (tgt := 438) C.1 C.2.1 dL_law_423 rfl (fun c1 => ?_) (fun c1 => ?_)
  · refine lv_goto (tgt := 1378) C.1 C.2.1 dL_law_438 rfl ?_
    exact W.widen (by omega) (by omega) (fin 0)
  · refine lv_aload_n C.1 C.2.1 dL_law_426 rfl (lv_at hl 5 rfl) ?_
    refine lv_iconst C.1 C.2.1 dL_law_427 ic_0 ?_
    have hin0 : vp_in (0 : Int32) 1 := by intro h; rcases h with h | h <;> exact absurd h (by decide)
    refine W.lald (v := .long (f1 0)) C.1 C.2.1 hL.2.2.1 ((hL.1.1.2 2 (G.2.1 14, .long) rfl).1 1 (fun j => .long (f1 j))) (fun q => by cases q) (by show ¬ ((0 : Int32) < 0 ∨ (arrV _ _ _).slots.size ≤ _); rw [arrV_size]; exact hin0) (by show (arrV _ _ _).slots[_]? = _; exact arrV_read _ _ (show (0 : Nat) < 1 by decide)) rfl rfl dL_law_428 ?_
    refine lv_iload C.1 C.2.1 dL_law_429 (lv_at hl 0 rfl) ?_
    refine lv_i2l C.1 C.2.1 dL_law_431 rfl ?_
    refine W.lcmp C.1 C.2.1 dL_law_432 ?_
    have hq0 : q.1 = 0 := by first | exact c1 | exact Classical.not_not.mp c1
    refine lv_if_eq (tgt := 438) C.1 C.2.1 dL_law_433 rfl (fun _ => ?_) (fun h => absurd (by rw [hf1 hq0, heq hq0]; exact lg_cmp_self _) h)
    refine lv_goto (tgt := 1378) C.1 C.2.1 dL_law_438 rfl ?_
    exact W.widen (by omega) (by omega) (fin 0)
/-- the law from its entry, out of what the pure part owes -/
theorem whole_open2 {p : Program} {e : Env} {s : State} {m : MethodId} {below : List Frame} {meth : Method} {c : Code} (l : Launch) (hflags : l.flags = flags0) {b L : Nat} {xs : Nat → Int32} (hL : L ≤ 3072) (C0 : lw_At p s m meth c b L xs) {Inv : MS → MS → Prop} {SX0 SM0 : MS} (hx0 : fX10_init 1 0 (wip S00 0) = some SX0) (hm0 : fX11_init 1 0 (wip S00 0) = some SM0) (hInv : Inv SX0 SM0) (hsim : SimAll Inv) (hsim5 : Sim_5 Inv) :
    W p l e room_1 s m #[Value.ref b] below meth c s.heap [] 0 0 (lw_Z below #[Value.ref b] s) (entryFrame m ([Value.ref b] : List Value).toArray 7) := by
  refine whole_open l hL C0 hx0 hm0 hInv hsim ?_
  intro G aX aM o hK hEx
  obtain ⟨hx, hb, hr, hml, hown, hts, hX, hbl, hlocks, hgv⟩ := C0
  have hs := flat_of_before _ hgv
  have hg : ∀ w ∈ gtbl, w.before #[Value.ref b] s = true := fun w h => hts w (List.mem_filter.mp h).1
  have hst : l.stackTraces = false := by unfold Launch.stackTraces; rw [hflags]; decide
  exact do_case ⟨hx, hb, hml, hown, hg, hr, hlocks⟩ hX hbl hst hEx (va_Nc.of (hs (Cond.not (.castable eNS eIO)) (by decide +kernel))) hsim5
