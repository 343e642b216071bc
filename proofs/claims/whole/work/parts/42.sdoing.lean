/-! ===== the law's own doing: it catches ===== -/
def sdA (L : List Nat) (sz o : Nat) : Nat → Prop := fun q => mA shX L sz q ∨ q = o
def sdB (G : Gv) (L : List Nat) (S : MS) (f : Nat → Int64) (sz o : Nat) (U : State) : Prop := U.heap.size = sz ∧ mHo true G shX L S U ∧ mE G (sdA L sz o) U U.heap ∧ mEx (sdA L sz o) U U.heap ∧ va_Nc eNS eIO U ∧ U.heap[o]? = some (vp_cell (G.2.1 14) (1, .inr (.inl f))) ∧ ¬ mA shX L sz o
def sdPc (G : Gv) (L : List Nat) (S : MS) (f : Nat → Int64) (av : List Value) (sz o : Nat) : Array Value → State → Prop := va_Pc av (sdB G L S f sz o)
def sdQ (G : Gv) (L : List Nat) (S : MS) (q : Int32 × Int32) (sz o : Nat) : Array Value → State → Outcome → State → Prop := va_Qi (fun r (_ : Unit) => r = q.1) (fun _ t => mHo true G shX L S t ∧ ∃ f : Nat → Int64, t.heap[o]? = some (vp_cell (G.2.1 14) (1, .inr (.inl f))) ∧ (q.1 = 0 → f 0 = q.2.toInt64)) (sdA L sz o)
theorem sd_blind {G : Gv} {L : List Nat} {S : MS} {f : Nat → Int64} {av : List Value} {sz o : Nat} : FrameBlind (sdPc G L S f av sz o) := by
  intro a U g mk q
  obtain ⟨q0, q1, ⟨qK, qP, qD, qT, qN⟩, qE, qX, qc, qo, qn⟩ := q
  exact ⟨q0, q1, ⟨va_K.moved (u := U) (U := U.calling g mk a) (Vm.Alike.refl U.vm) qK, qP, qD, qT, mN.same (u := U) (U := U.calling g mk a) qN rfl⟩, mE.same (u := U) (U := U.calling g mk a) qE rfl (Vm.Alike.refl U.vm), mEx.same (u := U) (U := U.calling g mk a) qX rfl (Vm.Alike.refl U.vm), va_Nc.moved (u := U) (U := U.calling g mk a) (Vm.Alike.refl U.vm) qc, qo, qn⟩
theorem d_blind {G : Gv} {L : List Nat} {S : MS} {av : List Value} {sz : Nat} : FrameBlind (dPc G L S av sz) := by
  intro a U g mk q
  obtain ⟨q0, q1, ⟨⟨qK, qP, qD, qT, qN⟩, qE⟩, qX⟩ := q
  exact ⟨q0, q1, ⟨⟨va_K.moved (u := U) (U := U.calling g mk a) (Vm.Alike.refl U.vm) qK, qP, qD, qT, mN.same (u := U) (U := U.calling g mk a) qN rfl⟩, mE.same (u := U) (U := U.calling g mk a) qE rfl (Vm.Alike.refl U.vm)⟩, mEx.same (u := U) (U := U.calling g mk a) qX rfl (Vm.Alike.refl U.vm)⟩
abbrev sdH : List (Nat × Nat × Nat × Nat) := [(0, 10, 13, 13), (0, 10, 17, 15)]
theorem sd_w : Cond.methodLink RL 7 yX10_doing ∈ gtbl ∧ Cond.instanceMethod yX10_doing ∈ gtbl ∧ Cond.selects RX10 yX10_doing yX10_doing ∈ gtbl ∧ Cond.initialized RX10 ∈ gtbl ∧ Cond.code yX10_doing cX10_doing 3 (some .int) ∈ gtbl := ⟨gm_5 191 rfl rfl, gm_5 192 rfl rfl, gm_5 193 rfl rfl, gm_1 1 rfl rfl, gm_5 194 rfl rfl⟩
theorem sd_x : Cond.castable eIO eIO ∈ xtbl ∧ Cond.castable eNS eNS ∈ xtbl := ⟨List.mem_filter.mpr ⟨in_5 (List.mem_of_getElem? (i := 197) rfl), rfl⟩, List.mem_filter.mpr ⟨in_6 (List.mem_of_getElem? (i := 23) rfl), rfl⟩⟩
theorem sd_last {p : Program} {l : Launch} {e : Env} {R : Room} {s : State} {m : MethodId} {args : Array Value} {below : List Frame} {meth : Method} {c : Code} {H : Heap} {locs : List Loc} {cells slots : Nat} {Q : State → Prop} {cc : ByteArray} {own : String} {nL : Nat} {ret : Option FieldType} {G : Gv} {A : Nat → Prop} {pc : Nat} {ls : Array Slot} {rest : List Value} {f : Nat → Int64} {o : Nat} {x : Int64} (C : mC p s m args meth c cc own nL ret) (hK : va_K G.1 vwCl (mtys G) s) (hS : va_S A s.heap H locs) (hA : A o) (ho : H[o]? = some (vp_cell (G.2.1 14) (1, .inr (.inl f)))) (hd : decode cc pc = .ok (.lastore, 1))
    (kk : ∀ (H1 : Heap) (locs1 : List Loc), H1[o]? = some (vp_cell (G.2.1 14) (1, .inr (.inl (vp_updL f 0 x)))) → va_S A s.heap H1 locs1 → (∀ q : Nat, q ≠ o → H1[q]? = H[q]?) → W p l e R s m args below meth c H1 locs1 cells slots Q (F0 m (pc + 1) ls rest)) : W p l e R s m args below meth c H locs cells slots Q (F0 m pc ls (.long x :: .int 0 :: .ref o :: rest)) := by
  have hin : vp_in (0 : Int32) 1 := by intro h; rcases h with h | h <;> exact absurd h (by decide)
  refine W.last C.1 C.2.1 ho ((hK.2 2 (G.2.1 14, .long) rfl).1 1 (fun j => .long (f j))) (fun q => by cases q) (by show ¬ ((0 : Int32) < 0 ∨ (arrV _ _ _).slots.size ≤ _); rw [arrV_size]; exact hin) rfl rfl hd fun H1 e z oq => ?_
  refine kk H1 _ ?_ (hS.put z oq hA) oq
  rw [e, vp_cell_l, vp_cell_l, arrV_store]
  congr 2
  funext q
  by_cases hq : q = 0
  · subst hq
    simp [updV, vp_updL]
  · simp [updV, vp_updL, hq]
set_option maxRecDepth 100000 in
set_option maxHeartbeats 4000000 in
theorem cL_doing_ok {l : Launch} (hst : l.stackTraces = false) {G : Gv} {L : List Nat} {S : MS} {f : Nat → Int64} {o : Nat} {a1 a2 : Int32} {q : Int32 × Int32} (hf : fX10_doing 0 a1 a2 S = some q) (sz : Nat) :
    Met l yL_doing (.codeWith yL_doing cL_doing 5 (some .int) sdH :: gtbl) ({ frames := 13, cells := 1, slots := 6, locals := 832 }) (sdPc G L S f [.ref (ad L 0), .int a1, .int a2, .ref o] sz o) (sdQ G L S q sz o) 1 6 (sdA L sz o) := by
  refine va_MetW (cc := cL_doing) (maxL := 5) (ret := some .int) (hh := sdH) (by decide) rfl ?_
  intro p e s m args below meth c s₁ B hml hv
  obtain ⟨rfl, hsz, ⟨hK, hP, hD, hT, hN⟩, hE, hEx, hNc, ho, hno⟩ := hv
  have hts := atoms_spec (ws := .codeWith yL_doing cL_doing 5 (some .int) sdH :: gtbl) B.pre
  have hown : s.vm.findClass RL = some m.cls := findClass_of_methodNamed B.named
  have hg : ∀ w ∈ gtbl, w.before ([.ref (ad L 0), .int a1, .int a2, .ref o] : List Value).toArray s = true := fun w h => hts w (List.mem_cons_of_mem _ h)
  have C : mC p s m ([.ref (ad L 0), .int a1, .int a2, .ref o] : List Value).toArray meth c cL_doing RL 5 (some .int) := ⟨B.exec, B.bytes, hml, hown, hg, B.returns, B.notSynchronized⟩
  have htab : c.exceptionTable.toList = tableOf sdH := vx_table (x := yL_doing) B (hts _ List.mem_cons_self)
  subst hsz
  have hAn : ∀ x, s.heap.size ≤ x → sdA L s.heap.size o x := fun x h => Or.inl (Or.inr h)
  have hW : mW G shX L S (sdA L s.heap.size o) s s.heap [] := ⟨hK, hP, ⟨hD.1, fun k q hk => Or.inl (Or.inl ⟨k, (mws_at hk).1, (mws_at hk).2⟩)⟩, va_S.rf, hT, hAn, hN, hE⟩
  rw [lg_entry_eq]
  have hl := lv_entry ([.ref (ad L 0), .int a1, .int a2, .ref o]) (n := 5) (Nat.le_of_ble_eq_true rfl)
  generalize (lg_sl ([.ref (ad L 0), .int a1, .int a2, .ref o]) ++ List.replicate (5 - (lg_sl ([.ref (ad L 0), .int a1, .int a2, .ref o])).length) Slot.unset).toArray = ls at hl ⊢
  have hl : lv_has ls 5 [(0, .ref (ad L 0)), (1, .int a1), (2, .int a2), (3, .ref o)] := hl
  refine lv_aload_n C.1 C.2.1 dL_doing_0 rfl (lv_at hl 3 rfl) ?_
  refine lv_iconst C.1 C.2.1 dL_doing_1 ic_0 ?_
  refine lv_aload_n C.1 C.2.1 dL_doing_2 rfl (lv_at hl 0 rfl) ?_
  refine lv_iload_n C.1 C.2.1 dL_doing_3 rfl (lv_at hl 1 rfl) ?_
  refine lv_iload_n C.1 C.2.1 dL_doing_4 rfl (lv_at hl 2 rfl) ?_
  have he := mws_get (G := G) (L := L) (S := S) (sh := shX) (o := 0) (by decide)
  rw [mcell_obj (show shX.2.1 0 = 10 from rfl) (by decide)] at he
  have hrecv := va_recv hW.1 hW.2.1 (show vwCl[10]? = some (RX10, TX10, 16) from rfl) he
  have hpre : ∀ U : State, U.heap = s.heap → s.WarmedH U.vm → dPc G L S [.ref (ad L 0), .int a1, .int a2] s.heap.size ([.ref (ad L 0), .int a1, .int a2] : List Value).toArray U := by
    intro U hU hw
    obtain ⟨h1, h2, h3⟩ := hW.pre (av := [.ref (ad L 0), .int a1, .int a2]) U hU hw
    refine ⟨h1, h2, h3, ?_⟩
    rw [hU]
    exact (hEx.narrow (fun q h => Or.inl h)).warm hw
  have hR : ({ frames := 12, cells := 1, slots := 6, locals := 768 } : Room).frames + 1 ≤ ({ frames := 13, cells := 1, slots := 6, locals := 832 } : Room).frames ∧ 8 + (3 + 11) + ({ frames := 12, cells := 1, slots := 6, locals := 768 } : Room).locals ≤ ({ frames := 13, cells := 1, slots := 6, locals := 832 } : Room).locals := ⟨by decide, by decide⟩
  have hrun := vx_runV (l := l) (e := e) (below := below) (meth := meth) (H := s.heap) (locs := []) (cells := 0) (slots := 0) (R := { frames := 13, cells := 1, slots := 6, locals := 832 }) (g := F0 m 5 ls [.int a2, .int a1, .ref (ad L 0), .int 0, .ref o]) (As := [.int a1, .int a2]) (rest := [.int 0, .ref o]) (b := ad L 0) (C := RX10) (n := 2) (index := 7) ⟨C.1, C.2.1, C.2.2.1, C.2.2.2.1, hg⟩ (cX10_doing_ok hst (G := G) (L := L) (by decide) hf s.heap.size) ⟨callB_of 2 hg (tbl_good sd_w.2.2.2.2) rfl rfl rfl (hg _ sd_w.2.2.2.1) (hg _ sd_w.1) (by decide +kernel) hR, hg _ sd_w.2.1, hg _ sd_w.2.2.1⟩ ⟨d_blind, hrecv, hpre⟩ rfl rfl hl.1 rfl (lv_room (Nat.le_of_ble_eq_true rfl)) dL_doing_5 ⟨by decide, by decide⟩
  have fin : ∀ (H : Heap) (locs : List Loc) (ls : Array Slot) (pc : Nat) (f : Nat → Int64), va_P G.1 vwCl (mws G shX L S) H → va_S (sdA L s.heap.size o) s.heap H locs → H[o]? = some (vp_cell (G.2.1 14) (1, .inr (.inl f))) → (q.1 = 0 → f 0 = q.2.toInt64) → decode cL_doing pc = .ok (.ireturn, 1) → W p l e ({ frames := 13, cells := 1, slots := 6, locals := 832 }) s m ([.ref (ad L 0), .int a1, .int a2, .ref o] : List Value).toArray below meth c H locs 1 6 (MQ below (sdQ G L S q s.heap.size o) ([.ref (ad L 0), .int a1, .int a2, .ref o] : List Value).toArray s 1 6 (sdA L s.heap.size o)) (F0 m pc ls [.int q.1]) := by
    intro H locs ls pc f hP hS ho hq hd
    exact W.iret C.1 C.2.1 C.2.2.2.2.2.1 (fun t ht hw => ⟨⟨q.1, (), rfl, rfl, ⟨va_K.moved hw.alike hK, by rw [ht]; exact hP, ⟨hD.1, fun _ _ _ => trivial⟩, hT, hN.warm hw⟩, f, by rw [ht]; exact ho, hq⟩, hS.F ht⟩) hS.2.2 hd C.2.2.2.2.2.2
  have hol : o < s.heap.size := (Array.getElem?_eq_some_iff.mp ho).1
  refine vx_calli (A0 := sdA L s.heap.size o) hrun va_S.rf (fun q _ h => Or.inl h) (fun q h => Or.inl h) (fun q _ h => Or.inl h) ?_ ?_
  · intro E ce q9 u t H1 locs1 ht hal _ hB hz hk hS hce hcv hcl
    obtain ⟨hEq, hHo⟩ := hB
    have hP1 : va_P G.1 vwCl (mws G shX L S) H1 := by rw [← ht]; exact hHo.2.1
    have ho1 : H1[o]? = some (vp_cell (G.2.1 14) (1, .inr (.inl f))) := by rw [hk o hol hno]; exact ho
    rcases hEq with ⟨rfl, hq⟩ | ⟨rfl, hq⟩
    · refine vx_catch (name := eIO) hown [] ⟨0, 10, 13, 13⟩ [⟨0, 10, 17, 15⟩] htab (fun z hz => nomatch hz) rfl (by decide) (hg _ (gm_5 189 rfl rfl)) (va_Nw.use rfl (hEx.1 _ sd_x.1)) hce hcv hcl ?_
      refine lv_astore (lv' := [(4, .ref q9), (0, .ref (ad L 0)), (1, .int a1), (2, .int a2), (3, .ref o)]) C.1 C.2.1 dL_doing_13 hl (by decide) rfl (fun ls hl => ?_)
      refine lv_iconst C.1 C.2.1 dL_doing_15 ic_1 ?_
      have h2 := fin H1 locs1 ls 16 f hP1 hS ho1 (fun h => absurd (hq.symm.trans h) (by decide)) dL_doing_16
      rw [hq] at h2
      exact h2
    · refine vx_catch (name := eNS) hown [⟨0, 10, 13, 13⟩] ⟨0, 10, 17, 15⟩ [] htab (fun z hz => by cases List.mem_singleton.mp hz; exact Or.inr ⟨by decide, eIO, hg _ (gm_5 189 rfl rfl), hNc⟩) rfl (by decide) (hg _ (gm_5 190 rfl rfl)) (va_Nw.use rfl (hEx.1 _ sd_x.2)) hce hcv hcl ?_
      refine lv_astore (lv' := [(4, .ref q9), (0, .ref (ad L 0)), (1, .int a1), (2, .int a2), (3, .ref o)]) C.1 C.2.1 dL_doing_17 hl (by decide) rfl (fun ls hl => ?_)
      refine lv_iconst C.1 C.2.1 dL_doing_19 ic_2 ?_
      have h2 := fin H1 locs1 ls 20 f hP1 hS ho1 (fun h => absurd (hq.symm.trans h) (by decide)) dL_doing_20
      rw [hq] at h2
      exact h2
  · intro r u t H1 locs1 ht hal hpost hB hz hk hS
    obtain ⟨hq1, rfl⟩ := hpost
    have hP1 : va_P G.1 vwCl (mws G shX L S) H1 := by rw [← ht]; exact hB.2.1
    have ho1 : H1[o]? = some (vp_cell (G.2.1 14) (1, .inr (.inl f))) := by rw [hk o hol hno]; exact ho
    refine lv_i2l C.1 C.2.1 dL_doing_8 rfl ?_
    refine sd_last C hK hS (Or.inr rfl) ho1 dL_doing_9 (fun H2 locs2 ho2 hS2 hk2 => ?_)
    refine lv_goto (tgt := 21) C.1 C.2.1 dL_doing_10 rfl ?_
    refine lv_iconst C.1 C.2.1 dL_doing_21 ic_0 ?_
    have h2 := fin H2 locs2 ls 22 _ (hP1.kept (fun k q hq => hk2 q.1 (fun h => hno (Or.inl ⟨k, (mws_at hq).1, h ▸ (mws_at hq).2⟩)))) hS2 ho2 (fun _ => by simp [vp_updL]) dL_doing_22
    rw [hq1] at h2
    exact h2
