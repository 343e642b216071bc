/-! ===== the law from its entry ===== -/
def S00 : MS := (fun _ _ => 0, fun _ _ => nul, fun _ _ => 0)
theorem nwL_8 : mNw RL 8 10 := ⟨by decide, RX10, TX10, 16, tyX10, rfl, inX10, tyX10_ok, gm_1 24 rfl rfl, gm_1 25 rfl rfl, gm_1 1 rfl rfl, by decide, by decide +kernel⟩
theorem nwL_18 : mNw RL 18 11 := ⟨by decide, RX11, TX11, 74, tyX11, rfl, inX11, tyX11_ok, gm_6 37 rfl rfl, gm_6 38 rfl rfl, gm_1 17 rfl rfl, by decide, by decide +kernel⟩
theorem liL_17 : mLi RL 17 yX10_init cX10_init 1 0 := ⟨(Or.inl (gm_1 26 rfl rfl)), gm_1 27 rfl rfl, gm_1 1 rfl rfl, gm_1 28 rfl rfl, rfl, by decide +kernel⟩
theorem liL_20 : mLi RL 20 yX11_init cX11_init 1 0 := ⟨(Or.inl (gm_6 39 rfl rfl)), gm_6 40 rfl rfl, gm_1 17 rfl rfl, gm_6 41 rfl rfl, rfl, by decide +kernel⟩
section MT
variable {p : Program} {l : Launch} {e : Env} {R : Room} {s : State} {m : MethodId} {args : Array Value} {below : List Frame} {meth : Method} {c : Code} {H : Heap} {locs : List Loc} {cells slots : Nat} {Q : State → Prop}
  {cc : ByteArray} {own : String} {nL : Nat} {ret : Option FieldType} {G : Gv} {sh : Sh} {B N : Nat} {S : MS} {pc : Nat} {ls : Array Slot} {rest : List Value}
/-- no cell yet -/
theorem m_none (hK : va_K G.1 vwCl (mtys G) s) (hN : mN s) (hE : mE G (fun q => s.heap.size ≤ q) s s.heap) (hS : va_S (fun q => s.heap.size ≤ q) s.heap H locs) : mWb false G (shn sh 0) (Lq B N) S (fun q => s.heap.size ≤ q) s H locs :=
  ⟨hK, fun k q h => by simp [mws, shn] at h, ⟨fun i j p q h => by simp [mws, shn] at h, fun k q h => by simp [mws, shn] at h⟩, hS, ⟨Nat.zero_le _, fun o j ho => absurd ho (Nat.not_lt_zero _)⟩, fun _ h => h, hN, hE⟩
theorem l_new {ci idx : Nat} (C : mC p s m args meth c cc own nL ret) (hW : mWb false G (shn sh 0) (Lq B N) S (fun q => s.heap.size ≤ q) s H locs) (hH : H.size = B) (hN1 : N ≤ 1000) (hn : 0 < N) (hk : sh.2.1 0 = ci) (F : mNw own idx ci) (hcells : cells + 1 ≤ R.cells) (hslots : slots + 100 ≤ R.slots) (hd : decode cc pc = .ok (.new idx, 3))
    (kk : ∀ (H1 : Heap), mWb false G (shn sh 1) (Lq B N) (wip S 0) (fun q => s.heap.size ≤ q) s H1 locs → H1.size = B + 1 → (∀ q, q < H.size → H1[q]? = H[q]?) → W p l e R s m args below meth c H1 locs (cells + 1) (slots + 100) Q (F0 m (pc + 3) ls (.ref (ad (Lq B N) 0) :: rest))) : W p l e R s m args below meth c H locs cells slots Q (F0 m pc ls rest) := by
  obtain ⟨hci, cn, T, N0, tf, hc, hin, hty, hcl, hins, hini, h100, hfs⟩ := F
  have hts := C.2.2.2.2.1
  have hKn := hW.1.1 ci _ hc
  refine W.newcK C.1 C.2.1 C.2.2.2.1 (hts _ hcl) (hts _ hins) (hts _ hini) rfl hd hcells (by omega) hKn.2.1 rfl fun H1 kC hkC e1 z1 o1 => ?_
  refine W.widen (k := cells + 1) (n := slots + 100) (Nat.le_refl _) (by omega) ?_
  have had : ad (Lq B N) 0 = H.size := by rw [ad_Lq hn, hH]; rfl
  have h2 := kk H1 (mV_push hW (by omega) hN1 hn (by
    rw [mcell_obj hk hci, mfs_wip]
    exact ⟨_, hc, (u_born tf hts hin hKn hkC e1 hty).to hfs⟩) z1 o1) (by omega) o1
  rw [had] at h2
  exact h2
theorem l_init {y : MethodName} {bytes : ByteArray} {maxL d' mc' ms' idx : Nat} {st : List Value} {S' : MS} (C : mC p s m args meth c cc own nL ret) (hW : mWb false G (shn sh 1) (Lq B sh.1) S (fun q => s.heap.size ≤ q) s H locs) (hH : H.size = B + 1) (hBs : s.heap.size ≤ B) (h1N : 0 < sh.1)
    (hM : MtD l y bytes maxL d' mc' ms' G sh B sh.1 1 S [.ref (ad (Lq B sh.1) 0)] S') (K : mLi own idx y bytes maxL 0) (hl : ls.size = nL) (hst : st = .ref (ad (Lq B sh.1) 0) :: rest) (hrm : (rest.map fun v => v.category).sum ≤ 8) (hfr : d' + 1 ≤ R.frames) (hlo : 8 + (maxL + 11) + 64 * d' ≤ R.locals) (hce : cells + mc' ≤ R.cells) (hsl : slots + ms' ≤ R.slots)
    (hd : decode cc pc = .ok (.invokespecial idx, 3)) (kk : ∀ (H1 : Heap) (locs1 : List Loc), mW G sh (Lq B sh.1) S' (fun q => s.heap.size ≤ q) s H1 locs1 → (∀ q, q < B → H1[q]? = H[q]?) → W p l e R s m args below meth c H1 locs1 (cells + mc') (slots + ms') Q (F0 m (pc + 3) ls rest)) : W p l e R s m args below meth c H locs cells slots Q (F0 m pc ls st) := by
  obtain ⟨hlk, hin, hini, hcode, hyn, hmh⟩ := K
  have hts := C.2.2.2.2.1
  have hR : (rmC d' mc' ms').frames + 1 ≤ R.frames ∧ 8 + (maxL + 11) + (rmC d' mc' ms').locals ≤ R.locals := ⟨hfr, hlo⟩
  have hbl : FrameBlind (va_Pc [.ref (ad (Lq B sh.1) 0)] (fun U => U.heap.size = B + 1 ∧ mHb false G (shn sh 1) (Lq B sh.1) S U)) := mH_blind
  have hpre := mc_pre (av := [.ref (ad (Lq B sh.1) 0)]) hW hH
  have hfree : ∀ q, mcA sh B sh.1 1 q → s.heap.size ≤ q := by
    have h := mA_free hW
    rw [hH] at h
    exact h
  have hA : ∀ q, q < B → ¬ mcA sh B sh.1 1 q := by
    intro q hq h
    rcases h with ⟨k, hk, e⟩ | h
    · have hk : k < 1 := hk
      rw [ad_Lq (by omega)] at e; omega
    · omega
  subst hst
  have go : va_Run p l e R s m args below meth c H locs cells slots mc' ms' (F0 m pc ls (.ref (ad (Lq B sh.1) 0) :: rest)) rest (mQ G sh (Lq B sh.1) S' none (mcA sh B sh.1 1) ([.ref (ad (Lq B sh.1) 0)] : List Value).toArray) (mcA sh B sh.1 1) := by
    rcases hlk with hlk | ⟨host, hlk⟩
    · exact va_runI (As := []) (rest := rest) ⟨C.1, C.2.1, C.2.2.1, C.2.2.2.1, hts⟩ hM ⟨callB_of 0 hts (tbl_good hcode) rfl rfl rfl (hts _ hini) (hts _ hlk) hmh hR, hyn, hts _ hin⟩ ⟨hbl, hpre⟩ rfl rfl hl rfl (lv_room hrm) hd ⟨hce, hsl⟩
    · exact va_runIN (As := []) (rest := rest) ⟨C.1, C.2.1, C.2.2.1, C.2.2.2.1, hts⟩ hM ⟨va_cnB 0 hts (tbl_good hcode) rfl rfl rfl (hW.2.2.2.2.2.2.1 _ hlk) (hts _ hini) hmh hR, hyn, hts _ hin⟩ ⟨hbl, hpre⟩ rfl rfl hl rfl (lv_room hrm) hd ⟨hce, hsl⟩
  intro T hT X
  obtain ⟨v, st₀, t, T', Ls, h0, X', hL, e1, e2, ⟨⟨hv, hHo⟩, hz, hk⟩, st⟩ := go T hT X
  cases hv
  rw [h0] at hz hk
  obtain ⟨hK, hP, hD, hS, hTy, hAA, hN, hE⟩ := hW
  obtain ⟨hK', hP', hD', hT', -⟩ := hHo
  have hS' : va_S (fun q => s.heap.size ≤ q) s.heap T'.heap (locs ++ Ls) := ⟨Nat.le_trans hS.1 (by rw [e1]; exact hz), fun q h1 h2 => by rw [e1, hk q (Nat.lt_of_lt_of_le h1 hS.1) (fun z => h2 (hfree q z))]; exact hS.2.1 q h1 h2, fun q hq => by
      rcases List.mem_append.mp hq with h | h
      · exact hS.2.2 q h
      · exact hfree _ (hL q h)⟩
  obtain ⟨t2, a1, b1⟩ := kk T'.heap (locs ++ Ls) ⟨hK, by rw [e1]; exact hP', ⟨hD'.1, fun k q hq => by
    have h1 := mws_at hq
    rw [h1.2, ad_Lq h1.1]; omega⟩, hS', hT', hAA, hN, hE⟩ (fun q hq => by rw [e1]; exact hk q (by omega) (hA q hq)) T' rfl X'
  exact ⟨t2, st t2 a1, b1⟩
end MT
set_option maxRecDepth 100000 in
set_option maxHeartbeats 4000000 in
/-- the law from its entry, out of what the pure part owes and the case of doing -/
theorem whole_open {p : Program} {e : Env} {s : State} {m : MethodId} {below : List Frame} {meth : Method} {c : Code} (l : Launch) {b L : Nat} {xs : Nat → Int32} (hL : L ≤ 3072) (C0 : lw_At p s m meth c b L xs) {Inv : MS → MS → Prop} {SX0 SM0 : MS} (hx0 : fX10_init 1 0 (wip S00 0) = some SX0) (hm0 : fX11_init 1 0 (wip S00 0) = some SM0) (hInv : Inv SX0 SM0) (hsim : SimAll Inv)
    (hdo : ∀ (G : Gv) (aX aM o : Nat), va_K G.1 vwCl (mtys G) s → mEx (fun q => s.heap.size ≤ q) s s.heap → DoCase p l e s m below meth c G aX aM o b L xs Inv) : W p l e room_1 s m #[Value.ref b] below meth c s.heap [] 0 0 (lw_Z below #[Value.ref b] s) (entryFrame m ([Value.ref b] : List Value).toArray 7) := by
  obtain ⟨G, hK, hN, hE, hEx⟩ := law_env C0
  obtain ⟨hx, hb, hr, hml, hown, hts, hX, hbl, hlocks, hgv⟩ := C0
  have hg : ∀ w ∈ gtbl, w.before #[Value.ref b] s = true := fun w h => hts w (List.mem_filter.mp h).1
  have C : mC p s m #[Value.ref b] meth c code RL 7 ret := ⟨hx, hb, hml, hown, hg, hr, hlocks⟩
  rw [lg_entry_eq]
  have hl := lv_entry ([.ref b]) (n := 7) (Nat.le_of_ble_eq_true rfl)
  generalize (lg_sl ([.ref b]) ++ List.replicate (7 - (lg_sl ([.ref b])).length) Slot.unset).toArray = ls at hl ⊢
  have hl : lv_has ls 7 [(0, .ref b)] := hl
  have h0 : mWb false G (shn shX 0) (Lq s.heap.size 99) S00 (fun q => s.heap.size ≤ q) s s.heap [] := m_none hK hN hE va_S.rf
  refine l_new (ci := 10) C h0 rfl (by decide) (by decide) rfl nwL_8 (Nat.le_of_ble_eq_true rfl) (Nat.le_of_ble_eq_true rfl) dL_law_0 (fun H hW hH _ => ?_)
  refine lv_dup C.1 C.2.1 dL_law_3 rfl ?_
  refine l_init (sh := shX) C hW hH (Nat.le_refl _) (by decide) (cX10_init_ok (by decide) rfl hx0) liL_17 hl.1 rfl (Nat.le_of_ble_eq_true rfl) (Nat.le_of_ble_eq_true rfl) (Nat.le_of_ble_eq_true rfl) (Nat.le_of_ble_eq_true rfl) (Nat.le_of_ble_eq_true rfl) dL_law_4 (fun H locs hW _ => ?_)
  refine lv_astore_n (lv' := [(1, .ref (ad (Lq s.heap.size 99) 0)), (0, .ref b)]) C.1 C.2.1 dL_law_7 rfl hl (by decide) rfl (fun ls hl => ?_)
  have hXlt : ∀ k, k < 99 → ad (Lq s.heap.size 99) k < H.size := fun k hk => (hW.2.1 k _ (mws_get hk)).lt
  have hX98 := hXlt 98 (by decide)
  rw [ad_Lq (by decide)] at hX98
  have h1 : mWb false G (shn shM 0) (Lq H.size 48) S00 (fun q => s.heap.size ≤ q) s H locs := m_none hK hN hE hW.2.2.2.1
  generalize hB2 : H.size = aM at h1
  refine l_new (ci := 11) C h1 hB2 (by decide) (by decide) rfl nwL_18 (Nat.le_of_ble_eq_true rfl) (Nat.le_of_ble_eq_true rfl) dL_law_8 (fun H1 hV hH1 ho1 => ?_)
  have hW1 : mW G shX (Lq s.heap.size 99) SX0 (fun q => s.heap.size ≤ q) s H1 locs := by
    obtain ⟨q1, q2, q3, q4, q5⟩ := hW
    exact ⟨q1, q2.kept (fun k q hq => ho1 q.1 ((q2 k q hq).lt)), q3, hV.2.2.2.1, q5⟩
  refine lv_dup C.1 C.2.1 dL_law_11 rfl ?_
  refine l_init (sh := shM) C hV hH1 (by omega) (by decide) (cX11_init_ok (by decide) rfl hm0) liL_20 hl.1 rfl (Nat.le_of_ble_eq_true rfl) (Nat.le_of_ble_eq_true rfl) (Nat.le_of_ble_eq_true rfl) (Nat.le_of_ble_eq_true rfl) (Nat.le_of_ble_eq_true rfl) dL_law_12 (fun H2 locs2 hV2 hk2 => ?_)
  have hW2 : mW G shX (Lq s.heap.size 99) SX0 (fun q => s.heap.size ≤ q) s H2 locs2 := mW_other hW1 hV2 (fun k hk => hk2 _ (by have := hXlt k hk; omega))
  refine lv_astore_n (lv' := [(2, .ref (ad (Lq aM 48) 0)), (1, .ref (ad (Lq s.heap.size 99) 0)), (0, .ref b)]) C.1 C.2.1 dL_law_15 rfl hl (by decide) rfl (fun ls hl => ?_)
  refine lv_iconst (v := 1) C.1 C.2.1 dL_law_16 (by decide) ?_
  refine va_newaK (H := H2) C.1 C.2.1 (atype := .long) (hts (.arrayClass .long) (in_1 (List.mem_of_getElem? (i := 77) rfl))) rfl dL_law_17 rfl (by decide) (N := 1) (by decide) (by decide) (Nat.le_of_ble_eq_true rfl) (Nat.le_of_ble_eq_true rfl) rfl fun H3 cA e3 z3 o3 hAr hNm => ?_
  have hcA : cA = G.2.1 14 := va_cls (sh := shM) (n := 48) (B := aM) (N := 48) (k := 2) (G := G) (S := SM0) (A := fun q => s.heap.size ≤ q) (H := H2) (locs := locs2) ⟨hV2.1, hV2.2.1, hV2.2.2.1, hV2.2.2.2.1, ⟨hV2.2.2.2.2.1.1, fun o j ho hr _ => hV2.2.2.2.2.1.2 o j ho hr (fun h => nomatch h)⟩, hV2.2.2.2.2.2⟩ rfl (fun _ h => by cases h) hNm
  subst hcA
  have hM47 := (hV2.2.1 47 _ (mws_get (by decide))).lt
  have hM47 : ad (Lq aM 48) 47 < H2.size := hM47
  rw [ad_Lq (by decide)] at hM47
  have hS3 : va_S (fun q => s.heap.size ≤ q) s.heap H3 locs2 := ⟨Nat.le_trans hV2.2.2.2.1.1 (by omega), fun x h1 h2 => (o3 x (Nat.lt_of_lt_of_le h1 hV2.2.2.2.1.1)).trans (hV2.2.2.2.1.2.1 x h1 h2), hV2.2.2.2.1.2.2⟩
  have hL3 : mL G s.heap.size aM H2.size SX0 SM0 (fun _ => 0) s H3 locs2 := by
    refine ⟨?_, ?_, e3, Nat.le_refl _, by omega, by omega⟩
    · obtain ⟨q1, q2, q3, q4, q5⟩ := hW2
      exact ⟨q1, q2.kept (fun k q hq => o3 q.1 ((q2 k q hq).lt)), q3, hS3, q5⟩
    · obtain ⟨q1, q2, q3, q4, q5⟩ := hV2
      exact ⟨q1, q2.kept (fun k q hq => o3 q.1 ((q2 k q hq).lt)), q3, hS3, q5⟩
  refine W.eq (g2 := F0 m 19 ls [.ref H2.size]) rfl ?_
  refine lv_astore_n (lv' := [(3, .ref H2.size), (2, .ref (ad (Lq aM 48) 0)), (1, .ref (ad (Lq s.heap.size 99) 0)), (0, .ref b)]) C.1 C.2.1 dL_law_19 rfl hl (by decide) rfl (fun ls hl => ?_)
  refine lv_iconst (v := 0) C.1 C.2.1 dL_law_20 (by decide) ?_
  refine lv_istore (lv' := [(4, .int 0), (3, .ref H2.size), (2, .ref (ad (Lq aM 48) 0)), (1, .ref (ad (Lq s.heap.size 99) 0)), (0, .ref b)]) C.1 C.2.1 dL_law_21 hl (by decide) rfl (fun ls hl => ?_)
  refine W.widen (k := 300 + 10 * 0) (n := 200000 + 100 * 0) (Nat.le_of_ble_eq_true rfl) (Nat.le_of_ble_eq_true rfl) ?_
  exact law_loop C hX hbl hL hsim (hdo G _ _ _ hK hEx) 513 0 0 SX0 SM0 _ H3 locs2 ls rfl (by decide) (by decide) hInv hL3 (lv_sub hl [4, 3, 2, 1, 0] rfl)
