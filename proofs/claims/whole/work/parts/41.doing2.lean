abbrev eRT : String := "java/lang/RuntimeException"
abbrev aIO : List Cond := (opAtoms RX10 187 eIO eRT 7 prog_18_method_2_code ["java/lang/Exception"]).filter vx_no
abbrev aNS : List Cond := (opAtoms RX10 194 eNS eRT 13 prog_28_method_4_code ["java/lang/Exception"]).filter vx_no
set_option maxRecDepth 100000 in
theorem io_in : ∀ w ∈ aIO, w ∈ lw_tbl ∧ (goodWord w || isX w) = true := by decide +kernel
set_option maxRecDepth 100000 in
theorem ns_in : ∀ w ∈ aNS, w ∈ lw_tbl ∧ (goodWord w || isX w) = true := by decide +kernel
set_option maxRecDepth 100000 in
theorem io_ot : ∀ w ∈ Cond.classLink RX10 183 eIO :: Cond.initialized eIO :: aIO, vx_ot w = true := by decide +kernel
set_option maxRecDepth 100000 in
theorem ns_ot : ∀ w ∈ Cond.classLink RX10 190 eNS :: Cond.initialized eNS :: aNS, vx_ot w = true := by decide +kernel
theorem io_w : Cond.classLink RX10 183 eIO ∈ gtbl ∧ Cond.initialized eIO ∈ gtbl ∧ Cond.classLink RX10 190 eNS ∈ gtbl ∧ Cond.initialized eNS ∈ gtbl := ⟨gm_5 195 rfl rfl, gm_1 22 rfl rfl, gm_6 21 rfl rfl, gm_1 23 rfl rfl⟩
set_option maxRecDepth 100000 in
set_option maxHeartbeats 4000000 in
theorem cX10_doing_ok {l : Launch} (hst : l.stackTraces = false) {G : Gv} {L : List Nat} {S : MS} {a0 : Nat} {a1 a2 : Int32} {q : Int32 × Int32} (ha0 : a0 < shX.1 ∧ shX.2.1 a0 = 10) (hf : fX10_doing a0 a1 a2 S = some q) (sz : Nat) :
    vx_Met l yX10_doing (.code yX10_doing cX10_doing 3 (some .int) :: gtbl) ({ frames := 12, cells := 1, slots := 6, locals := 768 }) (dPc G L S [.ref (ad L a0), .int a1, .int a2] sz) (dQ G L S q sz) (dX G L S q.1 sz) 1 6 (mA shX L sz) := by
  refine vx_ofW (cc := cX10_doing) (maxL := 3) (ret := some .int) (by decide) rfl ?_
  intro p e s m args below meth c s₁ B hml hout hv
  obtain ⟨rfl, hsz, ⟨⟨hK, hP, hD, hT, hN⟩, hE⟩, hEx⟩ := hv
  have hts := atoms_spec (ws := .code yX10_doing cX10_doing 3 (some .int) :: gtbl) B.pre
  have hown : s.vm.findClass RX10 = some m.cls := findClass_of_methodNamed B.named
  have C : mC p s m ([.ref (ad L a0), .int a1, .int a2] : List Value).toArray meth c cX10_doing RX10 3 (some .int) := ⟨B.exec, B.bytes, hml, hown, fun w h => hts w (List.mem_cons_of_mem _ h), B.returns, B.notSynchronized⟩
  subst hsz
  have hW : mW G shX L S (mA shX L s.heap.size) s s.heap [] := ⟨hK, hP, ⟨hD.1, fun k q hk => Or.inl ⟨k, (mws_at hk).1, (mws_at hk).2⟩⟩, va_S.rf, hT, fun q h => Or.inr h, hN, hE⟩
  rw [lg_entry_eq]
  have hl := lv_entry ([.ref (ad L a0), .int a1, .int a2]) (n := 3) (Nat.le_of_ble_eq_true rfl)
  generalize (lg_sl ([.ref (ad L a0), .int a1, .int a2]) ++ List.replicate (3 - (lg_sl ([.ref (ad L a0), .int a1, .int a2])).length) Slot.unset).toArray = ls at hl ⊢
  have hl : lv_has ls 3 [(0, .ref (ad L a0)), (1, .int a1), (2, .int a2)] := hl
  unfold fX10_doing at hf
  have thr : ∀ (H : Heap) (locs : List Loc), mW G shX L S (mA shX L s.heap.size) s H locs → ∀ (E : String), ((E = eIO ∧ q.1 = 1) ∨ (E = eNS ∧ q.1 = 2)) → ∀ t : State, s.WarmedH t.vm → H.size ≤ t.heap.size → (∀ q : Nat, q < H.size → t.heap[q]? = H[q]?) → dX G L S q.1 s.heap.size E s t := by
    intro H locs hW E hE t ht hz hk
    obtain ⟨hK, hP, hD, hS, hT, hA, hN, -⟩ := hW
    refine ⟨(), trivial, ⟨hE, va_K.moved ht.alike hK, hP.kept (fun k q hq => hk q.1 ((hP k q hq).lt)), ⟨hD.1, fun _ _ _ => trivial⟩, hT, hN.warm ht⟩, Nat.le_trans hS.1 hz, fun q h1 h2 => ?_⟩
    rw [hk q (Nat.lt_of_lt_of_le h1 hS.1)]
    exact hS.2.1 q h1 h2
  have tIO : ∀ (H : Heap) (locs : List Loc), mW G shX L S (mA shX L s.heap.size) s H locs → q.1 = 1 → W p l e ({ frames := 12, cells := 1, slots := 6, locals := 768 }) s m ([.ref (ad L a0), .int a1, .int a2] : List Value).toArray below meth c H locs 0 0 (vx_MQ below (dQ G L S q s.heap.size) (dX G L S q.1 s.heap.size) ([.ref (ad L a0), .int a1, .int a2] : List Value).toArray s 1 6 (mA shX L s.heap.size)) (F0 m 14 ls []) := by
    intro H locs hW hq
    obtain ⟨sa, hsa⟩ := hEx.2.2.2.1
    exact op_throwS C.1 C.2.1 hst (own := RX10) (cls := eIO) (Y := eRT) (names := ["java/lang/Exception"]) (bp := prog_18_method_2_code) (ip := 7) C.2.2.2.1 (by decide) (by decide) (by decide) (by decide +kernel) (by decide +kernel) (by decide +kernel) (by decide +kernel) (C.2.2.2.2.1 _ io_w.1) (C.2.2.2.2.1 _ io_w.2.1) hsa (at_hat io_in C.2.2.2.2.1 hEx.1) io_ot hEx.2.1 hEx.2.2.1 hW.2.2.2.1 (hl.1.trans C.2.2.1.symm)
      dX10_doing_14 dX10_doing_17 dX10_doing_18 dX10_doing_20 dX10_doing_23 (fun x hx => (hout x hx).elim) (Nat.le_of_ble_eq_true rfl) (Nat.le_of_ble_eq_true rfl) (Nat.le_of_ble_eq_true rfl) (Nat.le_of_ble_eq_true rfl) C.2.2.2.2.2.2 (thr H locs hW eIO (Or.inl ⟨rfl, hq⟩)) hW.2.2.2.1.2.2 (Nat.le_of_ble_eq_true rfl) (Nat.le_of_ble_eq_true rfl)
  have tNS : ∀ (H : Heap) (locs : List Loc), mW G shX L S (mA shX L s.heap.size) s H locs → q.1 = 2 → W p l e ({ frames := 12, cells := 1, slots := 6, locals := 768 }) s m ([.ref (ad L a0), .int a1, .int a2] : List Value).toArray below meth c H locs 0 0 (vx_MQ below (dQ G L S q s.heap.size) (dX G L S q.1 s.heap.size) ([.ref (ad L a0), .int a1, .int a2] : List Value).toArray s 1 6 (mA shX L s.heap.size)) (F0 m 33 ls []) := by
    intro H locs hW hq
    obtain ⟨sa, hsa⟩ := hEx.2.2.2.2
    exact op_throwS C.1 C.2.1 hst (own := RX10) (cls := eNS) (Y := eRT) (names := ["java/lang/Exception"]) (bp := prog_28_method_4_code) (ip := 13) C.2.2.2.1 (by decide) (by decide) (by decide) (by decide +kernel) (by decide +kernel) (by decide +kernel) (by decide +kernel) (C.2.2.2.2.1 _ io_w.2.2.1) (C.2.2.2.2.1 _ io_w.2.2.2) hsa (at_hat ns_in C.2.2.2.2.1 hEx.1) ns_ot hEx.2.1 hEx.2.2.1 hW.2.2.2.1 (hl.1.trans C.2.2.1.symm)
      dX10_doing_33 dX10_doing_36 dX10_doing_37 dX10_doing_39 dX10_doing_42 (fun x hx => (hout x hx).elim) (Nat.le_of_ble_eq_true rfl) (Nat.le_of_ble_eq_true rfl) (Nat.le_of_ble_eq_true rfl) (Nat.le_of_ble_eq_true rfl) C.2.2.2.2.2.2 (thr H locs hW eNS (Or.inr ⟨rfl, hq⟩)) hW.2.2.2.1.2.2 (Nat.le_of_ble_eq_true rfl) (Nat.le_of_ble_eq_true rfl)
  have le : ∀ (H : Heap) (locs : List Loc) (pc : Nat) (v : Int32), mW G shX L S (mA shX L s.heap.size) s H locs → q = (0, v) → decode cX10_doing pc = .ok (.ireturn, 1) → W p l e ({ frames := 12, cells := 1, slots := 6, locals := 768 }) s m ([.ref (ad L a0), .int a1, .int a2] : List Value).toArray below meth c H locs 0 0 (vx_MQ below (dQ G L S q s.heap.size) (dX G L S q.1 s.heap.size) ([.ref (ad L a0), .int a1, .int a2] : List Value).toArray s 1 6 (mA shX L s.heap.size)) (F0 m pc ls [.int v]) := by
    intro H locs pc v hW hq hd
    refine vx_ret ?_
    refine W.widen (k := 1) (n := 6) (by decide) (by decide) ?_
    exact W.iret C.1 C.2.1 C.2.2.2.2.2.1 (fun t ht hw => ⟨⟨v, (), rfl, ⟨by rw [hq], by rw [hq]⟩, (hW.end' ht hw).1⟩, (hW.end' ht hw).2⟩) hW.2.2.2.1.2.2 hd C.2.2.2.2.2.2
  refine lv_aload_n C.1 C.2.1 dX10_doing_0 rfl (lv_at hl 0 rfl) ?_
  refine m_getr C hW ha0 flX10_16 (by decide) dX10_doing_1 (fun hk1 => ?_)
  refine m_getr C hW hk1 flX10_151 (by decide) dX10_doing_4 (fun hk2 => ?_)
  refine lv_iload_n C.1 C.2.1 dX10_doing_7 rfl (lv_at hl 1 rfl) ?_
  obtain ⟨q1, h1, hf⟩ := bd hf
  refine mc_callV (As := [.int a1]) (rest := []) C hW hk2 (cX7_has_ok hk2 h1) mlX10_179 (by decide) rfl hl.1 rfl (Nat.le_of_ble_eq_true rfl) (Nat.le_of_ble_eq_true rfl) (Nat.le_of_ble_eq_true rfl) (Nat.le_of_ble_eq_true rfl) (Nat.le_of_ble_eq_true rfl) dX10_doing_8 (fun H locs hW => ?_)
  refine lv_if_ne (tgt := 24) C.1 C.2.1 dX10_doing_11 rfl (fun c1 => ?_) (fun c1 => ?_)
  · have hf := (if_neg c1).symm.trans hf
    refine lv_iload_n C.1 C.2.1 dX10_doing_24 rfl (lv_at hl 2 rfl) ?_
    refine lv_if_lt (tgt := 33) C.1 C.2.1 dX10_doing_25 rfl (fun c2 => ?_) (fun c2 => ?_)
    · have hf := (if_pos c2).symm.trans hf
      exact tNS H locs hW (by cases hf; rfl)
    · have hf := (if_neg c2).symm.trans hf
      refine lv_iload_n C.1 C.2.1 dX10_doing_28 rfl (lv_at hl 2 rfl) ?_
      refine lv_iconst C.1 C.2.1 dX10_doing_29 ic_4 ?_
      refine lv_icmp_le (tgt := 43) C.1 C.2.1 dX10_doing_30 rfl (fun c3 => ?_) (fun c3 => ?_)
      · have hf := (if_pos c3).symm.trans hf
        refine lv_iload_n C.1 C.2.1 dX10_doing_43 rfl (lv_at hl 2 rfl) ?_
        refine lv_iconst C.1 C.2.1 dX10_doing_44 ic_4 ?_
        refine lv_icmp_ne (tgt := 60) C.1 C.2.1 dX10_doing_45 rfl (fun c4 => ?_) (fun c4 => ?_)
        · have hf := (if_neg c4).symm.trans hf
          refine lv_aload_n C.1 C.2.1 dX10_doing_60 rfl (lv_at hl 0 rfl) ?_
          refine m_getr C hW ha0 flX10_16 (by decide) dX10_doing_61 (fun hk3 => ?_)
          refine m_getr C hW hk3 flX10_151 (by decide) dX10_doing_64 (fun hk4 => ?_)
          refine lv_iload_n C.1 C.2.1 dX10_doing_67 rfl (lv_at hl 1 rfl) ?_
          refine lv_iconst C.1 C.2.1 dX10_doing_68 ic_1 ?_
          refine lv_iload_n C.1 C.2.1 dX10_doing_69 rfl (lv_at hl 2 rfl) ?_
          refine lv_iadd C.1 C.2.1 dX10_doing_70 ?_
          obtain ⟨q2, h2, hf⟩ := bd hf
          refine mc_callV (As := [.int a1, .int ((1 : Int32) + a2)]) (rest := []) C hW hk4 (cX7_get_ok hk4 h2) mlX10_198 (by decide) rfl hl.1 rfl (Nat.le_of_ble_eq_true rfl) (Nat.le_of_ble_eq_true rfl) (Nat.le_of_ble_eq_true rfl) (Nat.le_of_ble_eq_true rfl) (Nat.le_of_ble_eq_true rfl) dX10_doing_71 (fun H locs hW => ?_)
          exact le H locs 74 q2 hW (by cases hf; rfl) dX10_doing_74
        · have hf := (if_pos c4).symm.trans hf
          refine lv_aload_n C.1 C.2.1 dX10_doing_48 rfl (lv_at hl 0 rfl) ?_
          refine m_getr C hW ha0 flX10_72 (by decide) dX10_doing_49 (fun hk3 => ?_)
          refine m_geti C hW hk3 flX10_195 dX10_doing_52 ?_
          refine lv_iload_n C.1 C.2.1 dX10_doing_55 rfl (lv_at hl 1 rfl) ?_
          refine lv_ishr C.1 C.2.1 dX10_doing_56 ?_
          refine lv_iconst C.1 C.2.1 dX10_doing_57 ic_1 ?_
          refine lv_iand C.1 C.2.1 dX10_doing_58 ?_
          exact le H locs 59 _ hW (by cases hf; rfl) dX10_doing_59
      · have hf := (if_neg c3).symm.trans hf
        exact tNS H locs hW (by cases hf; rfl)
  · have hf := (if_pos c1).symm.trans hf
    exact tIO H locs hW (by cases hf; rfl)
