/-! ===== the law: the class's cells and the reference's side by side, and the row 'out' ===== -/
/-- the two memories and the row of one long, all made behind the start; aX, aM: where the two objects' cells begin, o: the row -/
def mL (G : Gv) (aX aM o : Nat) (SX SM : MS) (f : Nat → Int64) (s : State) (H : Heap) (locs : List Loc) : Prop :=
  mW G shX (Lq aX 99) SX (fun q => s.heap.size ≤ q) s H locs ∧ mW G shM (Lq aM 48) SM (fun q => s.heap.size ≤ q) s H locs ∧ H[o]? = some (vp_cell (G.2.1 14) (1, .inr (.inl f))) ∧ s.heap.size ≤ aX ∧ aX + 99 ≤ aM ∧ aM + 48 ≤ o
section ML
variable {p : Program} {l : Launch} {e : Env} {R : Room} {s : State} {m : MethodId} {args : Array Value} {below : List Frame} {meth : Method} {c : Code} {H : Heap} {locs : List Loc} {cells slots : Nat} {Q : State → Prop}
  {cc : ByteArray} {own : String} {nL : Nat} {ret : Option FieldType} {G : Gv} {sh : Sh} {L : List Nat} {S : MS} {A : Nat → Prop} {pc : Nat} {ls : Array Slot} {rest : List Value} {aX aM o : Nat} {SX SM : MS} {f : Nat → Int64}
/-- behind a call, with what wasn't touched -/
theorem l_after {S' : MS} {out : Option Value} {st0 : List Value} {a : Array Value} {mc ms : Nat} (hW : mW G sh L S A s H locs) (hr : va_Run p l e R s m args below meth c H locs cells slots mc ms (F0 m pc ls st0) rest (mQ G sh L S' out (mA sh L H.size) a) (mA sh L H.size))
    (kk : ∀ (H1 : Heap) (locs1 : List Loc), mW G sh L S' A s H1 locs1 → (∀ q, q < H.size → ¬ mA sh L H.size q → H1[q]? = H[q]?) → W p l e R s m args below meth c H1 locs1 (cells + mc) (slots + ms) Q (F0 m (pc + 3) ls (out.toList ++ rest))) : W p l e R s m args below meth c H locs cells slots Q (F0 m pc ls st0) := by
  intro T hT X
  obtain ⟨v, st₀, t, T', Ls, h0, X', hL, e1, e2, ⟨⟨hv, hH⟩, hz, hk⟩, st⟩ := hr T hT X
  cases hv
  rw [h0] at hz hk
  have hfree := mA_free hW
  obtain ⟨hK, hP, hD, hS, hTy, hA, hN, hE⟩ := hW
  obtain ⟨hK', hP', hD', hT', -⟩ := hH
  have hS' : va_S A s.heap T'.heap (locs ++ Ls) := ⟨Nat.le_trans hS.1 (by rw [e1]; exact hz), fun q h1 h2 => by rw [e1, hk q (Nat.lt_of_lt_of_le h1 hS.1) (fun z => h2 (hfree q z))]; exact hS.2.1 q h1 h2, fun q hq => by
      rcases List.mem_append.mp hq with h | h
      · exact hS.2.2 q h
      · exact hfree _ (hL q h)⟩
  obtain ⟨t2, a1, b1⟩ := kk T'.heap (locs ++ Ls) ⟨hK, by rw [e1]; exact hP', ⟨hD'.1, fun k q hq => by
    have h1 := mws_at hq
    rw [h1.2]
    exact hD.2 k _ (mws_get h1.1)⟩, hS', hT', hA, hN, hE⟩ (fun q h1 h2 => by rw [e1]; exact hk q h1 h2) T' rfl X'
  exact ⟨t2, st t2 a1, b1⟩
/-- cells that a call didn't touch are as they were -/
theorem mW_other {sh' : Sh} {L' : List Nat} {S1 S2 : MS} {H1 : Heap} {locs1 : List Loc} (hW : mW G sh L S1 A s H locs) (hV : mW G sh' L' S2 A s H1 locs1) (h : ∀ k, k < sh.1 → H1[ad L k]? = H[ad L k]?) : mW G sh L S1 A s H1 locs1 := by
  obtain ⟨hK, hP, hD, hS, hT, hA, hN, hE⟩ := hW
  refine ⟨hK, hP.kept (fun k q hq => ?_), hD, hV.2.2.2.1, hT, hA, hN, hE⟩
  have h1 := mws_at hq
  rw [h1.2]; exact h k h1.1
theorem mL_lt (hL : mL G aX aM o SX SM f s H locs) : (∀ k, k < 48 → ad (Lq aM 48) k < H.size) ∧ o < H.size ∧ ∀ k, k < 99 → ad (Lq aX 99) k < H.size :=
  ⟨fun k hk => (hL.2.1.2.1 k _ (mws_get hk)).lt, (Array.getElem?_eq_some_iff.mp hL.2.2.1).1, fun k hk => (hL.1.2.1 k _ (mws_get hk)).lt⟩
theorem notX {q : Nat} (h1 : q < H.size) (h2 : aX + 99 ≤ q) : ¬ mA shX (Lq aX 99) H.size q := by
  intro h
  rcases h with ⟨k, hk, e⟩ | h
  · have hk : k < 99 := hk
    rw [ad_Lq hk] at e; omega
  · omega
theorem notM {q : Nat} (h1 : q < H.size) (h2 : q < aM ∨ aM + 48 ≤ q) : ¬ mA shM (Lq aM 48) H.size q := by
  intro h
  rcases h with ⟨k, hk, e⟩ | h
  · have hk : k < 48 := hk
    rw [ad_Lq hk] at e; omega
  · omega
theorem l_callX {y : MethodName} {bytes : ByteArray} {maxL d' idx n : Nat} {rt : Option FieldType} {As st : List Value} {out : Option Value} {S' : MS} (C : mC p s m args meth c cc own nL ret) (hL : mL G aX aM o SX SM f s H locs) (hM : Mt l y bytes maxL rt d' G shX (Lq aX 99) SX (.ref (ad (Lq aX 99) 0) :: As) out S') (K : mLm own idx 10 y bytes maxL rt n)
    (hn : As.length = n) (hl : ls.size = nL) (hst : st = As.reverse ++ .ref (ad (Lq aX 99) 0) :: rest) (hrm : (rest.map fun v => v.category).sum ≤ 8) (hfr : d' + 1 ≤ R.frames) (hlo : 8 + (maxL + 11) + 64 * d' ≤ R.locals) (hce : cells ≤ R.cells) (hsl : slots ≤ R.slots) (hd : decode cc pc = .ok (.invokevirtual idx, 3))
    (kk : ∀ (H1 : Heap) (locs1 : List Loc), mL G aX aM o S' SM f s H1 locs1 → W p l e R s m args below meth c H1 locs1 cells slots Q (F0 m (pc + 3) ls (out.toList ++ rest))) : W p l e R s m args below meth c H locs cells slots Q (F0 m pc ls st) := by
  obtain ⟨cn, T, N, hc, hcn, hlk, hin, hsel, hini, hcode, hmh⟩ := K
  subst hcn
  have hts := C.2.2.2.2.1
  have hW := hL.1
  have hR : (rmd d').frames + 1 ≤ R.frames ∧ 8 + (maxL + 11) + (rmd d').locals ≤ R.locals := ⟨hfr, hlo⟩
  have he := mws_get (G := G) (L := Lq aX 99) (S := SX) (sh := shX) (o := 0) (by decide)
  rw [mcell_obj (show shX.2.1 0 = 10 from rfl) (by decide)] at he
  have hrecv := va_recv hW.1 hW.2.1 hc he
  have hbl : FrameBlind (va_Pc (.ref (ad (Lq aX 99) 0) :: As) (fun U => U.heap.size = H.size ∧ mHb true G shX (Lq aX 99) SX U)) := mH_blind
  have hpre := hW.pre (av := .ref (ad (Lq aX 99) 0) :: As)
  have hlt := mL_lt hL
  have fin : ∀ (H1 : Heap) (locs1 : List Loc), mW G shX (Lq aX 99) S' (fun q => s.heap.size ≤ q) s H1 locs1 → (∀ q, q < H.size → ¬ mA shX (Lq aX 99) H.size q → H1[q]? = H[q]?) → mL G aX aM o S' SM f s H1 locs1 := fun H1 locs1 h1 h2 =>
    ⟨h1, mW_other hL.2.1 h1 (fun k hk => h2 _ (hlt.1 k hk) (notX (hlt.1 k hk) (by rw [ad_Lq hk]; have := hL.2.2.2; omega))), by rw [h2 o hlt.2.1 (notX hlt.2.1 (by have := hL.2.2.2; omega))]; exact hL.2.2.1, hL.2.2.2⟩
  subst hst
  rcases hlk with hlk | ⟨host, hlk⟩
  · exact l_after hW (va_runV (rest := rest) ⟨C.1, C.2.1, C.2.2.1, C.2.2.2.1, hts⟩ (hM H.size) ⟨callB_of n hts (tbl_good hcode) rfl rfl rfl (hts _ hini) (hts _ hlk) hmh hR, hts _ hin, hts _ hsel⟩ ⟨hbl, hrecv, hpre⟩ rfl hn hl rfl (lv_room hrm) hd ⟨hce, hsl⟩) (fun H1 locs1 h1 h2 => kk H1 locs1 (fin H1 locs1 h1 h2))
  · exact l_after hW (va_runVN (rest := rest) ⟨C.1, C.2.1, C.2.2.1, C.2.2.2.1, hts⟩ (hM H.size) ⟨va_cnB n hts (tbl_good hcode) rfl rfl rfl (hW.2.2.2.2.2.2.1 _ hlk) (hts _ hini) hmh hR, hts _ hin, hts _ hsel⟩ ⟨hbl, hrecv, hpre⟩ rfl hn hl rfl (lv_room hrm) hd ⟨hce, hsl⟩) (fun H1 locs1 h1 h2 => kk H1 locs1 (fin H1 locs1 h1 h2))
theorem l_callM {y : MethodName} {bytes : ByteArray} {maxL d' idx n : Nat} {rt : Option FieldType} {As st : List Value} {out : Option Value} {S' : MS} (C : mC p s m args meth c cc own nL ret) (hL : mL G aX aM o SX SM f s H locs) (hM : Mt l y bytes maxL rt d' G shM (Lq aM 48) SM (.ref (ad (Lq aM 48) 0) :: As) out S') (K : mLm own idx 11 y bytes maxL rt n)
    (hn : As.length = n) (hl : ls.size = nL) (hst : st = As.reverse ++ .ref (ad (Lq aM 48) 0) :: rest) (hrm : (rest.map fun v => v.category).sum ≤ 8) (hfr : d' + 1 ≤ R.frames) (hlo : 8 + (maxL + 11) + 64 * d' ≤ R.locals) (hce : cells ≤ R.cells) (hsl : slots ≤ R.slots) (hd : decode cc pc = .ok (.invokevirtual idx, 3))
    (kk : ∀ (H1 : Heap) (locs1 : List Loc), mL G aX aM o SX S' f s H1 locs1 → W p l e R s m args below meth c H1 locs1 cells slots Q (F0 m (pc + 3) ls (out.toList ++ rest))) : W p l e R s m args below meth c H locs cells slots Q (F0 m pc ls st) := by
  obtain ⟨cn, T, N, hc, hcn, hlk, hin, hsel, hini, hcode, hmh⟩ := K
  subst hcn
  have hts := C.2.2.2.2.1
  have hW := hL.2.1
  have hR : (rmd d').frames + 1 ≤ R.frames ∧ 8 + (maxL + 11) + (rmd d').locals ≤ R.locals := ⟨hfr, hlo⟩
  have he := mws_get (G := G) (L := Lq aM 48) (S := SM) (sh := shM) (o := 0) (by decide)
  rw [mcell_obj (show shM.2.1 0 = 11 from rfl) (by decide)] at he
  have hrecv := va_recv hW.1 hW.2.1 hc he
  have hbl : FrameBlind (va_Pc (.ref (ad (Lq aM 48) 0) :: As) (fun U => U.heap.size = H.size ∧ mHb true G shM (Lq aM 48) SM U)) := mH_blind
  have hpre := hW.pre (av := .ref (ad (Lq aM 48) 0) :: As)
  have hlt := mL_lt hL
  have fin : ∀ (H1 : Heap) (locs1 : List Loc), mW G shM (Lq aM 48) S' (fun q => s.heap.size ≤ q) s H1 locs1 → (∀ q, q < H.size → ¬ mA shM (Lq aM 48) H.size q → H1[q]? = H[q]?) → mL G aX aM o SX S' f s H1 locs1 := fun H1 locs1 h1 h2 =>
    ⟨mW_other hL.1 h1 (fun k hk => h2 _ (hlt.2.2 k hk) (notM (hlt.2.2 k hk) (by rw [ad_Lq hk]; have := hL.2.2.2; have hk : k < 99 := hk; omega))), h1, by rw [h2 o hlt.2.1 (notM hlt.2.1 (by have := hL.2.2.2; omega))]; exact hL.2.2.1, hL.2.2.2⟩
  subst hst
  rcases hlk with hlk | ⟨host, hlk⟩
  · exact l_after hW (va_runV (rest := rest) ⟨C.1, C.2.1, C.2.2.1, C.2.2.2.1, hts⟩ (hM H.size) ⟨callB_of n hts (tbl_good hcode) rfl rfl rfl (hts _ hini) (hts _ hlk) hmh hR, hts _ hin, hts _ hsel⟩ ⟨hbl, hrecv, hpre⟩ rfl hn hl rfl (lv_room hrm) hd ⟨hce, hsl⟩) (fun H1 locs1 h1 h2 => kk H1 locs1 (fin H1 locs1 h1 h2))
  · exact l_after hW (va_runVN (rest := rest) ⟨C.1, C.2.1, C.2.2.1, C.2.2.2.1, hts⟩ (hM H.size) ⟨va_cnB n hts (tbl_good hcode) rfl rfl rfl (hW.2.2.2.2.2.2.1 _ hlk) (hts _ hini) hmh hR, hts _ hin, hts _ hsel⟩ ⟨hbl, hrecv, hpre⟩ rfl hn hl rfl (lv_room hrm) hd ⟨hce, hsl⟩) (fun H1 locs1 h1 h2 => kk H1 locs1 (fin H1 locs1 h1 h2))
end ML
