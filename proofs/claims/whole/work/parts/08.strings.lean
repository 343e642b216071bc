/-! ===== the text constant: length() and charAt(k) of java.lang.String over it ===== -/
section MS8
variable {p : Program} {l : Launch} {e : Env} {R : Room} {s : State} {m : MethodId} {args : Array Value} {below : List Frame} {meth : Method} {c : Code} {H : Heap} {locs : List Loc} {cells slots : Nat} {Q : State → Prop}
  {cc : ByteArray} {own : String} {nL : Nat} {ret : Option FieldType} {b : Bool} {G : Gv} {sh : Sh} {L : List Nat} {S : MS} {A : Nat → Prop} {pc : Nat} {ls : Array Slot} {rest : List Value}
theorem mWb.str (hW : mWb b G sh L S A s H locs) : vk_S 1 [lngB.length] [lngB] (fun _ => G.2.2.1) (fun _ => G.2.2.2) A s s.heap := hW.2.2.2.2.2.2.2.1
theorem mWb.vs (hW : mWb b G sh L S A s H locs) : va_S A s.heap H locs := hW.2.2.2.1
/-- a call on the text constant -/
theorem m_callK {y : MethodName} {bytes : ByteArray} {maxL d d' idx n : Nat} {rt : Option FieldType} {As st : List Value} {out : Option Value} {S' : MS} (C : mC p s m args meth c cc own nL ret) (hW : mWb b G sh L S A s H locs) (hM : Mtb b l y bytes maxL rt d' G sh L S (.ref G.2.2.1 :: As) out S')
    (hy : y.cls = "java/lang/String") (hlk : Cond.methodLink own idx y ∈ gtbl) (hin : Cond.instanceMethod y ∈ gtbl) (hsel : Cond.selects "java/lang/String" y y ∈ gtbl) (hini : Cond.initialized "java/lang/String" ∈ gtbl) (hcode : Cond.code y bytes maxL rt ∈ gtbl) (hmh : (parseMethodDescriptor y.desc).map (fun d => d.parameters.length) = some n)
    (hn : As.length = n) (hl : ls.size = nL) (hst : st = As.reverse ++ .ref G.2.2.1 :: rest) (hrm : (rest.map fun v => v.category).sum ≤ 8) (hdd : d' + 1 ≤ d) (hmx : maxL ≤ 45) (hd : decode cc pc = .ok (.invokevirtual idx, 3))
    (kk : ∀ (H1 : Heap) (locs1 : List Loc), mWb b G sh L S' A s H1 locs1 → W p l e (rmd d) s m args below meth c H1 locs1 0 0 Q (F0 m (pc + 3) ls (out.toList ++ rest))) : W p l e (rmd d) s m args below meth c H locs 0 0 Q (F0 m pc ls st) := by
  have hts := C.2.2.2.2.1
  have hR : (rmd d').frames + 1 ≤ (rmd d).frames ∧ 8 + (maxL + 11) + (rmd d').locals ≤ (rmd d).locals := ⟨hdd, by show 8 + (maxL + 11) + 64 * d' ≤ 64 * d; omega⟩
  have hrecv := vk_recv hW.str (i := 0) (by decide) hW.vs
  have hbl : FrameBlind (va_Pc (.ref G.2.2.1 :: As) (fun U => U.heap.size = H.size ∧ mHb b G sh L S U)) := mH_blind
  have hpre := hW.pre (av := .ref G.2.2.1 :: As)
  subst hst
  have hmh2 : y.cls ≠ "java/lang/invoke/MethodHandle" ∧ y.cls ≠ "java/lang/invoke/VarHandle" ∧ (parseMethodDescriptor y.desc).map (fun d => d.parameters.length) = some n := ⟨by rw [hy]; decide, by rw [hy]; decide, hmh⟩
  exact m_after hW (va_runV (rest := rest) (C := "java/lang/String") ⟨C.1, C.2.1, C.2.2.1, C.2.2.2.1, hts⟩ (hM H.size) ⟨callB_of n hts (tbl_good hcode) rfl rfl rfl (by rw [hy]; exact hts _ hini) (hts _ hlk) hmh2 hR, hts _ hin, hts _ hsel⟩ ⟨hbl, hrecv, hpre⟩ rfl hn hl rfl (lv_room hrm) hd ⟨Nat.le_refl 0, Nat.le_refl 0⟩) kk
theorem m_nret {v : Int32} {ty : FieldType} (C : mC p s m args meth c cc own nL (some ty)) (hW : mWb b G sh L S A s H locs) (hv : narrow ty (.int v) = .int v) (hd : decode cc pc = .ok (.ireturn, 1)) :
    W p l e R s m args below meth c H locs cells slots (MQ below (mQb b G sh L S (some (.int v)) A) args s cells slots A) (F0 m pc ls [.int v]) :=
  W.zret C.1 C.2.1 C.2.2.2.2.2.1 hv (fun t ht hw => ⟨⟨rfl, (hW.end' ht hw).1⟩, (hW.end' ht hw).2⟩) hW.2.2.2.1.2.2 hd C.2.2.2.2.2.2
end MS8
-- ===== printed by strings.py
set_option maxRecDepth 100000 in
theorem cJ3_checkIndex_8e157_ok {l : Launch} {b : Bool} {G : Gv} {sh : Sh} {L : List Nat} {S : MS} {i n : Int32} {v : Value} (hv : v.category = 1) (h0 : ¬ i < 0) (h1 : i < n) : Mtb b l yJ3_checkIndex_8e157 cJ3_checkIndex_8e157 3 (some .int) 1 G sh L S [.int i, .int n, v] (some (.int i)) S := by
  refine m_enter (lv := [(0, .int i), (1, .int n), (2, v)]) (by decide +kernel) (by cases v <;> first | exact Nat.le_of_ble_eq_true rfl | cases hv) (by simp [lv_args, Value.category]) ?_
  intro p e s m below meth c A ls C hW hl
  refine lv_iload_n C.1 C.2.1 dJ3_checkIndex_8e157_0 rfl (lv_at hl 0 rfl) ?_
  refine lv_if_lt (tgt := 9) C.1 C.2.1 dJ3_checkIndex_8e157_1 rfl (fun c1 => absurd c1 h0) (fun _ => ?_)
  refine lv_iload_n C.1 C.2.1 dJ3_checkIndex_8e157_4 rfl (lv_at hl 0 rfl) ?_
  refine lv_iload_n C.1 C.2.1 dJ3_checkIndex_8e157_5 rfl (lv_at hl 1 rfl) ?_
  refine lv_icmp_lt (tgt := 16) C.1 C.2.1 dJ3_checkIndex_8e157_6 rfl (fun _ => ?_) (fun c1 => absurd h1 c1)
  refine lv_iload_n C.1 C.2.1 dJ3_checkIndex_8e157_16 rfl (lv_at hl 0 rfl) ?_
  exact m_iret C hW dJ3_checkIndex_8e157_17
set_option maxRecDepth 100000 in
theorem cJ0_checkIndex_df160_ok {l : Launch} {b : Bool} {G : Gv} {sh : Sh} {L : List Nat} {S : MS} {i n : Int32} (h0 : ¬ i < 0) (h1 : i < n) : Mtb b l yJ0_checkIndex_df160 cJ0_checkIndex_df160 2 none 2 G sh L S [.int i, .int n] none S := by
  refine m_enter (lv := [(0, .int i), (1, .int n)]) (by decide +kernel) (Nat.le_of_ble_eq_true rfl) rfl ?_
  intro p e s m below meth c A ls C hW hl
  refine lv_iload_n C.1 C.2.1 dJ0_checkIndex_df160_0 rfl (lv_at hl 0 rfl) ?_
  refine lv_iload_n C.1 C.2.1 dJ0_checkIndex_df160_1 rfl (lv_at hl 1 rfl) ?_
  rcases hW.2.2.2.2.2.2.2.2.2.1 with hz | ⟨t, hz⟩
  · refine va_gets C.1 C.2.1 hz hW.vs C.2.2.2.1 (C.2.2.2.2.1 _ (gm_1 192 rfl rfl)) (fun _ h => h) dJ0_checkIndex_df160_2 ?_
    refine m_callS (n := 3) (As := [.int i, .int n, .null]) (rest := []) C hW (cJ3_checkIndex_8e157_ok rfl h0 h1) ⟨Or.inl (gm_1 194 rfl rfl), gm_1 195 rfl rfl, gm_1 8 rfl rfl, gm_1 196 rfl rfl, by decide +kernel⟩ rfl hl.1 rfl (Nat.le_of_ble_eq_true rfl) (Nat.le_of_ble_eq_true rfl) (Nat.le_of_ble_eq_true rfl) dJ0_checkIndex_df160_5 (fun H locs hW => ?_)
    refine lv_pop C.1 C.2.1 dJ0_checkIndex_df160_8 rfl ?_
    exact m_vret C hW dJ0_checkIndex_df160_9
  · refine va_gets C.1 C.2.1 hz hW.vs C.2.2.2.1 (C.2.2.2.2.1 _ (gm_1 192 rfl rfl)) (fun _ h => h) dJ0_checkIndex_df160_2 ?_
    refine m_callS (n := 3) (As := [.int i, .int n, .ref t]) (rest := []) C hW (cJ3_checkIndex_8e157_ok rfl h0 h1) ⟨Or.inl (gm_1 194 rfl rfl), gm_1 195 rfl rfl, gm_1 8 rfl rfl, gm_1 196 rfl rfl, by decide +kernel⟩ rfl hl.1 rfl (Nat.le_of_ble_eq_true rfl) (Nat.le_of_ble_eq_true rfl) (Nat.le_of_ble_eq_true rfl) dJ0_checkIndex_df160_5 (fun H locs hW => ?_)
    refine lv_pop C.1 C.2.1 dJ0_checkIndex_df160_8 rfl ?_
    exact m_vret C hW dJ0_checkIndex_df160_9
/-- the char at k of the text constant -/
def lngC (i : Int32) : Int32 := (((lngB.getD i.toNatClampNeg 0) &&& 255).toUInt32 % 65536).toInt32
set_option maxRecDepth 100000 in
theorem cJ1_charAt_3b067_ok {l : Launch} {b : Bool} {G : Gv} {sh : Sh} {L : List Nat} {S : MS} {i : Int32} (hb : bnd i lngB.length = true) : Mtb b l yJ1_charAt_3b067 cJ1_charAt_3b067 2 (some .char) 3 G sh L S [.ref G.2.2.2, .int i] (some (.int (lngC i))) S := by
  refine m_enter (lv := [(0, .ref G.2.2.2), (1, .int i)]) (by decide +kernel) (Nat.le_of_ble_eq_true rfl) rfl ?_
  intro p e s m below meth c A ls C hW hl
  have hb' := of_decide_eq_true hb
  have h0 := hb'.1
  have h1 : i < Int32.ofNat lngB.length := by
    have h2 : i.toNatClampNeg < 113 := hb'.2
    rw [Int32.lt_iff_toInt_lt] at h0 ⊢
    have e1 : (Int32.ofNat lngB.length).toInt = 113 := by decide
    have e0 : (0 : Int32).toInt = 0 := by decide
    rw [e1]; rw [e0] at h0
    have e2 : i.toNatClampNeg = i.toInt.toNat := rfl
    omega
  have hT := (hW.str.1 0 (by decide)).2.2.2
  refine lv_iload_n C.1 C.2.1 dJ1_charAt_3b067_0 rfl (lv_at hl 1 rfl) ?_
  refine lv_aload_n C.1 C.2.1 dJ1_charAt_3b067_1 rfl (lv_at hl 0 rfl) ?_
  refine va_tlen C.1 C.2.1 hT hW.vs rfl dJ1_charAt_3b067_2 ?_
  refine m_callS (n := 2) (As := [.int i, .int (Int32.ofNat lngB.length)]) (rest := []) C hW (cJ0_checkIndex_df160_ok h0 h1) ⟨Or.inl (gm_1 189 rfl rfl), gm_1 190 rfl rfl, gm_1 6 rfl rfl, gm_1 191 rfl rfl, by decide +kernel⟩ rfl hl.1 rfl (Nat.le_of_ble_eq_true rfl) (Nat.le_of_ble_eq_true rfl) (Nat.le_of_ble_eq_true rfl) dJ1_charAt_3b067_3 (fun H locs hW => ?_)
  refine lv_aload_n C.1 C.2.1 dJ1_charAt_3b067_6 rfl (lv_at hl 0 rfl) ?_
  refine lv_iload_n C.1 C.2.1 dJ1_charAt_3b067_7 rfl (lv_at hl 1 rfl) ?_
  refine va_tb C.1 C.2.1 hT hW.vs (bnd_in hb) rfl dJ1_charAt_3b067_8 ?_
  refine lv_sipush C.1 C.2.1 dJ1_charAt_3b067_9 (v := 255) (by decide) ?_
  refine lv_iand C.1 C.2.1 dJ1_charAt_3b067_12 ?_
  refine lv_i2c C.1 C.2.1 dJ1_charAt_3b067_13 rfl ?_
  exact m_nret C hW (pk_nc _) dJ1_charAt_3b067_14
set_option maxRecDepth 100000 in
theorem cJ0_coder_7d493_ok {l : Launch} {b : Bool} {G : Gv} {sh : Sh} {L : List Nat} {S : MS} : Mtb b l yJ0_coder_7d493 cJ0_coder_7d493 1 (some .byte) 1 G sh L S [.ref G.2.2.1] (some (.int 0)) S := by
  refine m_enter (lv := [(0, .ref G.2.2.1)]) (by decide +kernel) (Nat.le_of_ble_eq_true rfl) rfl ?_
  intro p e s m below meth c A ls C hW hl
  refine va_gets C.1 C.2.1 hW.2.2.2.2.2.2.2.2.1 hW.vs C.2.2.2.1 (C.2.2.2.2.1 _ (gm_1 176 rfl rfl)) (fun _ h => h) dJ0_coder_7d493_0 ?_
  refine lv_if_eq (tgt := 13) C.1 C.2.1 dJ0_coder_7d493_3 rfl (fun c1 => absurd c1 (by decide)) (fun _ => ?_)
  refine lv_aload_n C.1 C.2.1 dJ0_coder_7d493_6 rfl (lv_at hl 0 rfl) ?_
  refine vk_getf C.1 C.2.1 (hW.str.1 0 (by decide)).2.1 hW.vs C.2.2.2.1 (C.2.2.2.2.1 _ (gm_9 25 rfl rfl)) (fun _ h => h) dJ0_coder_7d493_7 ?_
  refine lv_goto (tgt := 14) C.1 C.2.1 dJ0_coder_7d493_10 rfl ?_
  exact m_nret C hW rfl dJ0_coder_7d493_14
set_option maxRecDepth 100000 in
theorem cJ0_isLatin1_aae02_ok {l : Launch} {b : Bool} {G : Gv} {sh : Sh} {L : List Nat} {S : MS} : Mtb b l yJ0_isLatin1_aae02 cJ0_isLatin1_aae02 1 (some .boolean) 1 G sh L S [.ref G.2.2.1] (some (.int 1)) S := by
  refine m_enter (lv := [(0, .ref G.2.2.1)]) (by decide +kernel) (Nat.le_of_ble_eq_true rfl) rfl ?_
  intro p e s m below meth c A ls C hW hl
  refine va_gets C.1 C.2.1 hW.2.2.2.2.2.2.2.2.1 hW.vs C.2.2.2.1 (C.2.2.2.2.1 _ (gm_1 176 rfl rfl)) (fun _ h => h) dJ0_isLatin1_aae02_0 ?_
  refine lv_if_eq (tgt := 17) C.1 C.2.1 dJ0_isLatin1_aae02_3 rfl (fun c1 => absurd c1 (by decide)) (fun _ => ?_)
  refine lv_aload_n C.1 C.2.1 dJ0_isLatin1_aae02_6 rfl (lv_at hl 0 rfl) ?_
  refine vk_getf C.1 C.2.1 (hW.str.1 0 (by decide)).2.1 hW.vs C.2.2.2.1 (C.2.2.2.2.1 _ (gm_9 25 rfl rfl)) (fun _ h => h) dJ0_isLatin1_aae02_7 ?_
  refine lv_if_ne (tgt := 17) C.1 C.2.1 dJ0_isLatin1_aae02_10 rfl (fun c1 => absurd rfl c1) (fun _ => ?_)
  refine lv_iconst (v := 1) C.1 C.2.1 dJ0_isLatin1_aae02_13 (by decide) ?_
  refine lv_goto (tgt := 18) C.1 C.2.1 dJ0_isLatin1_aae02_14 rfl ?_
  exact m_nret C hW rfl dJ0_isLatin1_aae02_18
set_option maxRecDepth 100000 in
theorem cJ0_length_8abf5_ok {l : Launch} {b : Bool} {G : Gv} {sh : Sh} {L : List Nat} {S : MS} : Mtb b l yJ0_length_8abf5 cJ0_length_8abf5 1 (some .int) 2 G sh L S [.ref G.2.2.1] (some (.int 113)) S := by
  refine m_enter (lv := [(0, .ref G.2.2.1)]) (by decide +kernel) (Nat.le_of_ble_eq_true rfl) rfl ?_
  intro p e s m below meth c A ls C hW hl
  refine lv_aload_n C.1 C.2.1 dJ0_length_8abf5_0 rfl (lv_at hl 0 rfl) ?_
  refine vk_getf C.1 C.2.1 (hW.str.1 0 (by decide)).2.2.1 hW.vs C.2.2.2.1 (C.2.2.2.2.1 _ (gm_9 24 rfl rfl)) (fun _ h => h) dJ0_length_8abf5_1 ?_
  refine va_tlen (v := 113) C.1 C.2.1 (hW.str.1 0 (by decide)).2.2.2 hW.vs (by decide) dJ0_length_8abf5_4 ?_
  refine lv_aload_n C.1 C.2.1 dJ0_length_8abf5_5 rfl (lv_at hl 0 rfl) ?_
  refine m_callK (As := []) (rest := [.int 113]) C hW cJ0_coder_7d493_ok rfl (gm_1 172 rfl rfl) (gm_1 173 rfl rfl) (gm_1 174 rfl rfl) (gm_1 6 rfl rfl) (gm_1 175 rfl rfl) (by decide +kernel) rfl hl.1 rfl (Nat.le_of_ble_eq_true rfl) (Nat.le_of_ble_eq_true rfl) (Nat.le_of_ble_eq_true rfl) dJ0_length_8abf5_6 (fun H locs hW => ?_)
  refine lv_ishr C.1 C.2.1 dJ0_length_8abf5_9 ?_
  exact m_iret C hW dJ0_length_8abf5_10
set_option maxRecDepth 100000 in
theorem cJ0_charAt_5068e_ok {l : Launch} {b : Bool} {G : Gv} {sh : Sh} {L : List Nat} {S : MS} {i : Int32} (hb : bnd i lngB.length = true) : Mtb b l yJ0_charAt_5068e cJ0_charAt_5068e 2 (some .char) 4 G sh L S [.ref G.2.2.1, .int i] (some (.int (lngC i))) S := by
  refine m_enter (lv := [(0, .ref G.2.2.1), (1, .int i)]) (by decide +kernel) (Nat.le_of_ble_eq_true rfl) rfl ?_
  intro p e s m below meth c A ls C hW hl
  refine lv_aload_n C.1 C.2.1 dJ0_charAt_5068e_0 rfl (lv_at hl 0 rfl) ?_
  refine m_callK (As := []) (rest := []) C hW cJ0_isLatin1_aae02_ok rfl (gm_1 182 rfl rfl) (gm_1 183 rfl rfl) (gm_1 184 rfl rfl) (gm_1 6 rfl rfl) (gm_1 185 rfl rfl) (by decide +kernel) rfl hl.1 rfl (Nat.le_of_ble_eq_true rfl) (Nat.le_of_ble_eq_true rfl) (Nat.le_of_ble_eq_true rfl) dJ0_charAt_5068e_1 (fun H locs hW => ?_)
  refine lv_if_eq (tgt := 16) C.1 C.2.1 dJ0_charAt_5068e_4 rfl (fun c1 => absurd c1 (by decide)) (fun _ => ?_)
  refine lv_aload_n C.1 C.2.1 dJ0_charAt_5068e_7 rfl (lv_at hl 0 rfl) ?_
  refine vk_getf C.1 C.2.1 (hW.str.1 0 (by decide)).2.2.1 hW.vs C.2.2.2.1 (C.2.2.2.2.1 _ (gm_9 24 rfl rfl)) (fun _ h => h) dJ0_charAt_5068e_8 ?_
  refine lv_iload_n C.1 C.2.1 dJ0_charAt_5068e_11 rfl (lv_at hl 1 rfl) ?_
  refine m_callS (n := 2) (As := [.ref G.2.2.2, .int i]) (rest := []) C hW (cJ1_charAt_3b067_ok hb) ⟨Or.inl (gm_1 186 rfl rfl), gm_1 187 rfl rfl, gm_1 7 rfl rfl, gm_1 188 rfl rfl, by decide +kernel⟩ rfl hl.1 rfl (Nat.le_of_ble_eq_true rfl) (Nat.le_of_ble_eq_true rfl) (Nat.le_of_ble_eq_true rfl) dJ0_charAt_5068e_12 (fun H locs hW => ?_)
  exact m_nret C hW (pk_nc _) dJ0_charAt_5068e_15
