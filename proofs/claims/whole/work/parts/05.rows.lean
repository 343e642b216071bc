/-! ===== rows over the memory: what an instruction does to it ===== -/
/-- a field that an instruction of class 'own' names by its entry idx: field j of class ci, of kind kt -/
def mFl (own : String) (idx ci j kt : Nat) : Prop := ci < 12 ∧ (kfs ci)[j]? = some kt ∧ ∃ (cn : String) (T : u_T) (N : Nat), vwCl[ci]? = some (cn, T, N) ∧ j < N ∧ (∀ w ∈ u_ws cn T N, w ∈ gtbl) ∧ (Cond.fieldLink own idx (T j).1 (T j).2.1 (T j).2.2.1 ∈ gtbl ∨ ∃ host, Cond.fieldLinkNest own idx (T j).1 (T j).2.1 (T j).2.2.1 host ∈ ntbl)
def mFp (own : String) (idx ci j kt : Nat) (ty : FieldType) : Prop := ci < 12 ∧ (kfs ci)[j]? = some kt ∧ ∃ (cn : String) (T : u_T) (N : Nat) (tf : Nat → FieldType), vwCl[ci]? = some (cn, T, N) ∧ j < N ∧ (∀ w ∈ u_ws cn T N, w ∈ gtbl) ∧ (Cond.fieldLink own idx (T j).1 (T j).2.1 (T j).2.2.1 ∈ gtbl ∨ ∃ host, Cond.fieldLinkNest own idx (T j).1 (T j).2.1 (T j).2.2.1 host ∈ ntbl) ∧
  (∀ k, k < N → parseFieldDescriptor (T k).2.2.1 = some (tf k)) ∧ (∀ a, a < N → ∀ b, b < N → a ≠ b → (T a).2.1 ≠ (T b).2.1) ∧ (T j).2.2.2 = false ∧ parseFieldDescriptor (T j).2.2.1 = some ty
/-- an instance method that an instruction names -/
def mLm (own : String) (idx ci : Nat) (y : MethodName) (bytes : ByteArray) (maxL : Nat) (rt : Option FieldType) (n : Nat) : Prop := ∃ (cn : String) (T : u_T) (N : Nat), vwCl[ci]? = some (cn, T, N) ∧ y.cls = cn ∧ (Cond.methodLink own idx y ∈ gtbl ∨ ∃ host, Cond.methodLinkNest own idx y host ∈ ntbl) ∧ Cond.instanceMethod y ∈ gtbl ∧ Cond.selects y.cls y y ∈ gtbl ∧ Cond.initialized y.cls ∈ gtbl ∧ Cond.code y bytes maxL rt ∈ gtbl ∧ (y.cls ≠ "java/lang/invoke/MethodHandle" ∧ y.cls ≠ "java/lang/invoke/VarHandle" ∧ (parseMethodDescriptor y.desc).map (fun d => d.parameters.length) = some n)
/-- a static method that an instruction names -/
def mLs (own : String) (idx : Nat) (y : MethodName) (bytes : ByteArray) (maxL : Nat) (rt : Option FieldType) (n : Nat) : Prop := (Cond.methodLink own idx y ∈ gtbl ∨ ∃ host, Cond.methodLinkNest own idx y host ∈ ntbl) ∧ Cond.static y ∈ gtbl ∧ Cond.initialized y.cls ∈ gtbl ∧ Cond.code y bytes maxL rt ∈ gtbl ∧ (y.cls ≠ "java/lang/invoke/MethodHandle" ∧ y.cls ≠ "java/lang/invoke/VarHandle" ∧ (parseMethodDescriptor y.desc).map (fun d => d.parameters.length) = some n)
theorem tbl_good {y : MethodName} {bytes : ByteArray} {maxL : Nat} {rt : Option FieldType} (h : Cond.code y bytes maxL rt ∈ gtbl) : GoodIn gtbl (.code y bytes maxL rt :: gtbl) := by
  intro w hw
  have hm : w ∈ gtbl := by
    rcases List.mem_cons.mp hw with rfl | h1
    · exact h
    · exact h1
  exact ⟨hm, good_of_word (List.mem_filter.mp hm).2⟩
section MR
variable {p : Program} {l : Launch} {e : Env} {R : Room} {s : State} {m : MethodId} {args : Array Value} {below : List Frame} {meth : Method} {c : Code} {H : Heap} {locs : List Loc} {cells slots : Nat} {Q : State → Prop}
  {cc : ByteArray} {own : String} {nL : Nat} {ret : Option FieldType} {b : Bool} {G : Gv} {sh : Sh} {L : List Nat} {S : MS} {A : Nat → Prop} {pc : Nat} {ls : Array Slot} {rest : List Value}
theorem mWb.set {o : Nat} {e : va_E} {S' : MS} {H1 : Heap} {locs1 : List Loc} (hW : mWb b G sh L S A s H locs) (he : mcell G sh L S' o = e) (hk : ∀ k, k ≠ o → mcell G sh L S' k = mcell G sh L S k) (hT : mWT b sh S')
    (hP : va_P G.1 vwCl ((mws G sh L S).set o (ad L o, e)) H1) (hD : va_D A ((mws G sh L S).set o (ad L o, e))) (hS : va_S A s.heap H1 locs1) : mWb b G sh L S' A s H1 locs1 := by
  rw [mws_set e he hk] at hP hD
  exact ⟨hW.1, hP, hD, hS, hT, hW.2.2.2.2.2⟩
theorem m_geti {o ci j idx : Nat} (C : mC p s m args meth c cc own nL ret) (hW : mWb b G sh L S A s H locs) (ho : o < sh.1 ∧ sh.2.1 o = ci) (F : mFl own idx ci j 99) (hd : decode cc pc = .ok (.getfield idx, 3))
    (kk : W p l e R s m args below meth c H locs cells slots Q (F0 m (pc + 3) ls (.int (gI S o j) :: rest))) : W p l e R s m args below meth c H locs cells slots Q (F0 m pc ls (.ref (ad L o) :: rest)) := by
  obtain ⟨hci, hj, cn, T, N, hc, hjN, hin, hl⟩ := F
  have he := mws_get (G := G) (L := L) (S := S) ho.1
  rw [mcell_obj ho.2 hci] at he
  have hv : (mfs ci L S o)[j]? = some (.int (S.1 o j)) := mfs_get hj
  rcases hl with hl | ⟨host, hl⟩
  · exact va_get C.1 C.2.1 C.2.2.2.2.1 hin C.2.2.2.1 hW.1 hW.2.1 o he hc j hjN (C.2.2.2.2.1 _ hl) (fun _ h => h) hv hd kk
  · exact va_getN C.1 C.2.1 C.2.2.2.2.1 hin C.2.2.2.1 hW.1 hW.2.1 o he hc j hjN (va_Nw.use rfl (hW.2.2.2.2.2.2.1 _ hl)) (fun _ h => h) hv hd kk
theorem m_getrb {o ci j idx kt : Nat} (C : mC p s m args meth c cc own nL ret) (hW : mWb b G sh L S A s H locs) (ho : o < sh.1 ∧ sh.2.1 o = ci) (F : mFl own idx ci j kt) (hkt : kt ≠ 99) (hn : b = false → gR S o j ≠ nul) (hd : decode cc pc = .ok (.getfield idx, 3))
    (kk : (gR S o j < sh.1 ∧ sh.2.1 (gR S o j) = kt) → W p l e R s m args below meth c H locs cells slots Q (F0 m (pc + 3) ls (.ref (ad L (gR S o j)) :: rest))) : W p l e R s m args below meth c H locs cells slots Q (F0 m pc ls (.ref (ad L o) :: rest)) := by
  obtain ⟨hci, hj, cn, T, N, hc, hjN, hin, hl⟩ := F
  have he := mws_get (G := G) (L := L) (S := S) ho.1
  rw [mcell_obj ho.2 hci] at he
  have hrk : mrk sh o j = kt := mrk_obj ho.2 hci hj
  have hT := hW.2.2.2.2.1.2 o j ho.1 (by rw [hrk]; exact hkt) hn
  rw [hrk] at hT
  have hnn : S.2.1 o j ≠ nul := by have := hW.2.2.2.2.1.1; unfold nul; omega
  have hv : (mfs ci L S o)[j]? = some (.ref (ad L (S.2.1 o j))) := by rw [mfs_get hj, if_neg hkt, rv_ref hnn]
  rcases hl with hl | ⟨host, hl⟩
  · exact va_get C.1 C.2.1 C.2.2.2.2.1 hin C.2.2.2.1 hW.1 hW.2.1 o he hc j hjN (C.2.2.2.2.1 _ hl) (fun _ h => h) hv hd (kk hT)
  · exact va_getN C.1 C.2.1 C.2.2.2.2.1 hin C.2.2.2.1 hW.1 hW.2.1 o he hc j hjN (va_Nw.use rfl (hW.2.2.2.2.2.2.1 _ hl)) (fun _ h => h) hv hd (kk hT)
theorem m_getr {o ci j idx kt : Nat} (C : mC p s m args meth c cc own nL ret) (hW : mW G sh L S A s H locs) (ho : o < sh.1 ∧ sh.2.1 o = ci) (F : mFl own idx ci j kt) (hkt : kt ≠ 99) (hd : decode cc pc = .ok (.getfield idx, 3))
    (kk : (gR S o j < sh.1 ∧ sh.2.1 (gR S o j) = kt) → W p l e R s m args below meth c H locs cells slots Q (F0 m (pc + 3) ls (.ref (ad L (gR S o j)) :: rest))) : W p l e R s m args below meth c H locs cells slots Q (F0 m pc ls (.ref (ad L o) :: rest)) :=
  m_getrb C hW ho F hkt (fun h => nomatch h) hd kk
theorem m_putv {o ci j idx : Nat} {ty : FieldType} {v : Int32} (C : mC p s m args meth c cc own nL ret) (hW : mWb b G sh L S A s H locs) (ho : o < sh.1 ∧ sh.2.1 o = ci) (F : mFp own idx ci j 99 ty) (hn : narrow ty (.int v) = .int v) (hfit : fits ty (.int v) = true) (hd : decode cc pc = .ok (.putfield idx, 3))
    (kk : ∀ (H1 : Heap) (locs1 : List Loc), mWb b G sh L (pI S o j v) A s H1 locs1 → W p l e R s m args below meth c H1 locs1 cells slots Q (F0 m (pc + 3) ls rest)) : W p l e R s m args below meth c H locs cells slots Q (F0 m pc ls (.int v :: .ref (ad L o) :: rest)) := by
  obtain ⟨hci, hj, cn, T, N, tf, hc, hjN, hin, hl, hty, hnm, hfin, hty1⟩ := F
  have he := mws_get (G := G) (L := L) (S := S) ho.1
  rw [mcell_obj ho.2 hci] at he
  have hlen : j < (mfs ci L S o).length := by rw [mfs_len]; exact (List.getElem?_eq_some_iff.mp hj).1
  have key : ∀ (H1 : Heap) (locs1 : List Loc), va_P G.1 vwCl ((mws G sh L S).set o (ad L o, .inr (ci, (mfs ci L S o).set j (.int v)))) H1 → va_D A ((mws G sh L S).set o (ad L o, .inr (ci, (mfs ci L S o).set j (.int v)))) → va_S A s.heap H1 locs1 → W p l e R s m args below meth c H1 locs1 cells slots Q (F0 m (pc + 3) ls rest) := fun H1 locs1 hP hD hS =>
    kk H1 locs1 (hW.set (by rw [mcell_obj ho.2 hci, mfs_pI hj]) (fun k h => mcell_pI_ne h) hW.2.2.2.2.1 hP hD hS)
  rcases hl with hl | ⟨host, hl⟩
  · exact va_put C.1 C.2.1 C.2.2.2.2.1 hin tf hty hnm C.2.2.2.1 hW.1 hW.2.1 hW.2.2.1 hW.2.2.2.1 o he hc j hjN (C.2.2.2.2.1 _ hl) (fun _ h => h) hfin hty1 hn hfit hlen hd key
  · exact va_putN C.1 C.2.1 C.2.2.2.2.1 hin tf hty hnm C.2.2.2.1 hW.1 hW.2.1 hW.2.2.1 hW.2.2.2.1 o he hc j hjN (va_Nw.use rfl (hW.2.2.2.2.2.2.1 _ hl)) (fun _ h => h) hfin hty1 hn hfit hlen hd key
theorem m_puti {o ci j idx : Nat} {v : Int32} (C : mC p s m args meth c cc own nL ret) (hW : mWb b G sh L S A s H locs) (ho : o < sh.1 ∧ sh.2.1 o = ci) (F : mFp own idx ci j 99 .int) (hd : decode cc pc = .ok (.putfield idx, 3))
    (kk : ∀ (H1 : Heap) (locs1 : List Loc), mWb b G sh L (pI S o j v) A s H1 locs1 → W p l e R s m args below meth c H1 locs1 cells slots Q (F0 m (pc + 3) ls rest)) : W p l e R s m args below meth c H locs cells slots Q (F0 m pc ls (.int v :: .ref (ad L o) :: rest)) :=
  m_putv C hW ho F rfl rfl hd kk
/-- a boolean -/
def isB (x : Int32) : Bool := decide (x = 0 ∨ x = 1)
theorem isB_n {x : Int32} (h : isB x = true) : narrow .boolean (.int x) = .int x ∧ fits .boolean (.int x) = true := by
  rcases (of_decide_eq_true h) with rfl | rfl <;> exact ⟨rfl, rfl⟩
theorem m_putz {o ci j idx : Nat} {v : Int32} (C : mC p s m args meth c cc own nL ret) (hW : mWb b G sh L S A s H locs) (ho : o < sh.1 ∧ sh.2.1 o = ci) (F : mFp own idx ci j 99 .boolean) (hv : isB v = true) (hd : decode cc pc = .ok (.putfield idx, 3))
    (kk : ∀ (H1 : Heap) (locs1 : List Loc), mWb b G sh L (pI S o j v) A s H1 locs1 → W p l e R s m args below meth c H1 locs1 cells slots Q (F0 m (pc + 3) ls rest)) : W p l e R s m args below meth c H locs cells slots Q (F0 m pc ls (.int v :: .ref (ad L o) :: rest)) :=
  m_putv C hW ho F (isB_n hv).1 (isB_n hv).2 hd kk
theorem m_putr {o ci j idx kt v : Nat} {ty : FieldType} (C : mC p s m args meth c cc own nL ret) (hW : mWb b G sh L S A s H locs) (ho : o < sh.1 ∧ sh.2.1 o = ci) (F : mFp own idx ci j kt ty) (hkt : kt ≠ 99) (hty0 : (∃ n, ty = .object n) ∨ ∃ t, ty = .array t) (hv : v < sh.1 ∧ sh.2.1 v = kt) (hd : decode cc pc = .ok (.putfield idx, 3))
    (kk : ∀ (H1 : Heap) (locs1 : List Loc), mWb b G sh L (pR S o j v) A s H1 locs1 → W p l e R s m args below meth c H1 locs1 cells slots Q (F0 m (pc + 3) ls rest)) : W p l e R s m args below meth c H locs cells slots Q (F0 m pc ls (.ref (ad L v) :: .ref (ad L o) :: rest)) := by
  obtain ⟨hci, hj, cn, T, N, tf, hc, hjN, hin, hl, hty, hnm, hfin, hty1⟩ := F
  have he := mws_get (G := G) (L := L) (S := S) ho.1
  rw [mcell_obj ho.2 hci] at he
  have hlen : j < (mfs ci L S o).length := by rw [mfs_len]; exact (List.getElem?_eq_some_iff.mp hj).1
  have hn : narrow ty (.ref (ad L v)) = .ref (ad L v) := by rcases hty0 with ⟨n, rfl⟩ | ⟨t, rfl⟩ <;> rfl
  have hfit : fits ty (.ref (ad L v)) = true := by rcases hty0 with ⟨n, rfl⟩ | ⟨t, rfl⟩ <;> rfl
  have hnn : v ≠ nul := by have := hW.2.2.2.2.1.1; unfold nul; omega
  have hT : mWT b sh (pR S o j v) := mWT_pR hW.2.2.2.2.1 (by rw [mrk_obj ho.2 hci hj]; exact hv)
  have key : ∀ (H1 : Heap) (locs1 : List Loc), va_P G.1 vwCl ((mws G sh L S).set o (ad L o, .inr (ci, (mfs ci L S o).set j (.ref (ad L v))))) H1 → va_D A ((mws G sh L S).set o (ad L o, .inr (ci, (mfs ci L S o).set j (.ref (ad L v))))) → va_S A s.heap H1 locs1 → W p l e R s m args below meth c H1 locs1 cells slots Q (F0 m (pc + 3) ls rest) := fun H1 locs1 hP hD hS =>
    kk H1 locs1 (hW.set (by rw [mcell_obj ho.2 hci, mfs_pR hj hkt, rv_ref hnn]) (fun k h => mcell_pR_ne h) hT hP hD hS)
  rcases hl with hl | ⟨host, hl⟩
  · exact va_put C.1 C.2.1 C.2.2.2.2.1 hin tf hty hnm C.2.2.2.1 hW.1 hW.2.1 hW.2.2.1 hW.2.2.2.1 o he hc j hjN (C.2.2.2.2.1 _ hl) (fun _ h => h) hfin hty1 hn hfit hlen hd key
  · exact va_putN C.1 C.2.1 C.2.2.2.2.1 hin tf hty hnm C.2.2.2.1 hW.1 hW.2.1 hW.2.2.1 hW.2.2.2.1 o he hc j hjN (va_Nw.use rfl (hW.2.2.2.2.2.2.1 _ hl)) (fun _ h => h) hfin hty1 hn hfit hlen hd key
/-! arrays; a place in range -/
def bnd (i : Int32) (n : Nat) : Bool := decide (¬ i < 0 ∧ i.toNatClampNeg < n)
theorem bnd_in {i : Int32} {n : Nat} (h : bnd i n = true) : vp_in i n := by
  have := of_decide_eq_true h
  intro hh
  rcases hh with h1 | h1
  · exact this.1 h1
  · omega
theorem m_iald {o : Nat} {i : Int32} (C : mC p s m args meth c cc own nL ret) (hW : mWb b G sh L S A s H locs) (ho : o < sh.1 ∧ sh.2.1 o = 13) (hin : bnd i (sh.2.2 o) = true) (hd : decode cc pc = .ok (.iaload, 1))
    (kk : W p l e R s m args below meth c H locs cells slots Q (F0 m (pc + 1) ls (.int (gI S o i.toNatClampNeg) :: rest))) : W p l e R s m args below meth c H locs cells slots Q (F0 m pc ls (.int i :: .ref (ad L o) :: rest)) := by
  have he := mws_get (G := G) (L := L) (S := S) ho.1
  rw [mcell_i ho.2] at he
  exact va_iald C.1 C.2.1 hW.1 hW.2.1 o 1 he rfl (bnd_in hin) hd kk
theorem m_bald {o : Nat} {i : Int32} (C : mC p s m args meth c cc own nL ret) (hW : mWb b G sh L S A s H locs) (ho : o < sh.1 ∧ sh.2.1 o = 12) (hin : bnd i (sh.2.2 o) = true) (hd : decode cc pc = .ok (.baload, 1))
    (kk : W p l e R s m args below meth c H locs cells slots Q (F0 m (pc + 1) ls (.int (gI S o i.toNatClampNeg) :: rest))) : W p l e R s m args below meth c H locs cells slots Q (F0 m pc ls (.int i :: .ref (ad L o) :: rest)) := by
  have he := mws_get (G := G) (L := L) (S := S) ho.1
  rw [mcell_b ho.2] at he
  exact va_bald C.1 C.2.1 hW.1 hW.2.1 o 0 he rfl (bnd_in hin) hd kk
theorem m_zald {o : Nat} {i : Int32} (C : mC p s m args meth c cc own nL ret) (hW : mWb b G sh L S A s H locs) (ho : o < sh.1 ∧ sh.2.1 o = 15) (hin : bnd i (sh.2.2 o) = true) (hd : decode cc pc = .ok (.baload, 1))
    (kk : W p l e R s m args below meth c H locs cells slots Q (F0 m (pc + 1) ls (.int (gI S o i.toNatClampNeg) :: rest))) : W p l e R s m args below meth c H locs cells slots Q (F0 m pc ls (.int i :: .ref (ad L o) :: rest)) := by
  have he := mws_get (G := G) (L := L) (S := S) ho.1
  rw [mcell_z ho.2] at he
  exact va_zald C.1 C.2.1 hW.1 hW.2.1 o 3 he rfl (bnd_in hin) hd kk
theorem m_lald {o : Nat} {i : Int32} (C : mC p s m args meth c cc own nL ret) (hW : mWb b G sh L S A s H locs) (ho : o < sh.1 ∧ sh.2.1 o = 14) (hin : bnd i (sh.2.2 o) = true) (hd : decode cc pc = .ok (.laload, 1))
    (kk : W p l e R s m args below meth c H locs cells slots Q (F0 m (pc + 1) ls (.long (gJ S o i.toNatClampNeg) :: rest))) : W p l e R s m args below meth c H locs cells slots Q (F0 m pc ls (.int i :: .ref (ad L o) :: rest)) := by
  have he := mws_get (G := G) (L := L) (S := S) ho.1
  rw [mcell_j ho.2] at he
  exact va_lald C.1 C.2.1 hW.1 hW.2.1 o 2 he rfl (bnd_in hin) hd kk
theorem m_aaldb {o t kt : Nat} {i : Int32} (C : mC p s m args meth c cc own nL ret) (hW : mWb b G sh L S A s H locs) (ho : o < sh.1 ∧ sh.2.1 o = t) (ht : (t = 16 ∧ kt = 1) ∨ (t = 17 ∧ kt = 9)) (hin : bnd i (sh.2.2 o) = true) (hn : b = false → gR S o i.toNatClampNeg ≠ nul) (hd : decode cc pc = .ok (.aaload, 1))
    (kk : (gR S o i.toNatClampNeg < sh.1 ∧ sh.2.1 (gR S o i.toNatClampNeg) = kt) → W p l e R s m args below meth c H locs cells slots Q (F0 m (pc + 1) ls (.ref (ad L (gR S o i.toNatClampNeg)) :: rest))) : W p l e R s m args below meth c H locs cells slots Q (F0 m pc ls (.int i :: .ref (ad L o) :: rest)) := by
  have he := mws_get (G := G) (L := L) (S := S) ho.1
  have hlt : i.toNatClampNeg < sh.2.2 o := (of_decide_eq_true hin).2
  have hT := fun h => hW.2.2.2.2.1.2 o i.toNatClampNeg ho.1 h hn
  have hz := hW.2.2.2.2.1.1
  rcases ht with ⟨rfl, rfl⟩ | ⟨rfl, rfl⟩
  · rw [mcell_r ho.2 (Or.inl rfl)] at he
    have hrk : mrk sh o i.toNatClampNeg = 1 := by unfold mrk; rw [ho.2]; simp [hlt]
    rw [hrk] at hT
    have h1 := hT (by decide)
    have hnn : S.2.1 o i.toNatClampNeg ≠ nul := by unfold nul; omega
    refine va_aldq C.1 C.2.1 hW.1 hW.2.1 o 4 he rfl (bnd_in hin) hd ?_
    rw [ro_rv, rv_ref hnn]
    exact kk h1
  · rw [mcell_r ho.2 (Or.inr rfl)] at he
    have hrk : mrk sh o i.toNatClampNeg = 9 := by unfold mrk; rw [ho.2]; simp [hlt]
    rw [hrk] at hT
    have h1 := hT (by decide)
    have hnn : S.2.1 o i.toNatClampNeg ≠ nul := by unfold nul; omega
    refine va_aldq C.1 C.2.1 hW.1 hW.2.1 o 5 he rfl (bnd_in hin) hd ?_
    rw [ro_rv, rv_ref hnn]
    exact kk h1
theorem m_aald {o t kt : Nat} {i : Int32} (C : mC p s m args meth c cc own nL ret) (hW : mW G sh L S A s H locs) (ho : o < sh.1 ∧ sh.2.1 o = t) (ht : (t = 16 ∧ kt = 1) ∨ (t = 17 ∧ kt = 9)) (hin : bnd i (sh.2.2 o) = true) (hd : decode cc pc = .ok (.aaload, 1))
    (kk : (gR S o i.toNatClampNeg < sh.1 ∧ sh.2.1 (gR S o i.toNatClampNeg) = kt) → W p l e R s m args below meth c H locs cells slots Q (F0 m (pc + 1) ls (.ref (ad L (gR S o i.toNatClampNeg)) :: rest))) : W p l e R s m args below meth c H locs cells slots Q (F0 m pc ls (.int i :: .ref (ad L o) :: rest)) :=
  m_aaldb C hW ho ht hin (fun h => nomatch h) hd kk
theorem m_iast {o : Nat} {i x : Int32} (C : mC p s m args meth c cc own nL ret) (hW : mWb b G sh L S A s H locs) (ho : o < sh.1 ∧ sh.2.1 o = 13) (hin : bnd i (sh.2.2 o) = true) (hd : decode cc pc = .ok (.iastore, 1))
    (kk : ∀ (H1 : Heap) (locs1 : List Loc), mWb b G sh L (pI S o i.toNatClampNeg x) A s H1 locs1 → W p l e R s m args below meth c H1 locs1 cells slots Q (F0 m (pc + 1) ls rest)) : W p l e R s m args below meth c H locs cells slots Q (F0 m pc ls (.int x :: .int i :: .ref (ad L o) :: rest)) := by
  have he := mws_get (G := G) (L := L) (S := S) ho.1
  rw [mcell_i ho.2] at he
  exact va_iast C.1 C.2.1 hW.1 hW.2.1 hW.2.2.1 hW.2.2.2.1 o 1 he rfl (bnd_in hin) hd (fun H1 locs1 hP hD hS => kk H1 locs1 (hW.set (by rw [mcell_i ho.2]; simp only [pI, up2_upd]) (fun k h => mcell_pI_ne h) hW.2.2.2.2.1 hP hD hS))
theorem m_bast {o : Nat} {i x : Int32} (C : mC p s m args meth c cc own nL ret) (hW : mWb b G sh L S A s H locs) (ho : o < sh.1 ∧ sh.2.1 o = 12) (hin : bnd i (sh.2.2 o) = true) (hd : decode cc pc = .ok (.bastore, 1))
    (kk : ∀ (H1 : Heap) (locs1 : List Loc), mWb b G sh L (pI S o i.toNatClampNeg (vp_nar .byte x)) A s H1 locs1 → W p l e R s m args below meth c H1 locs1 cells slots Q (F0 m (pc + 1) ls rest)) : W p l e R s m args below meth c H locs cells slots Q (F0 m pc ls (.int x :: .int i :: .ref (ad L o) :: rest)) := by
  have he := mws_get (G := G) (L := L) (S := S) ho.1
  rw [mcell_b ho.2] at he
  exact va_bast C.1 C.2.1 hW.1 hW.2.1 hW.2.2.1 hW.2.2.2.1 o 0 he rfl (bnd_in hin) hd (fun H1 locs1 hP hD hS => kk H1 locs1 (hW.set (by rw [mcell_b ho.2]; simp only [pI, up2_upd]) (fun k h => mcell_pI_ne h) hW.2.2.2.2.1 hP hD hS))
theorem m_zast {o : Nat} {i x : Int32} (C : mC p s m args meth c cc own nL ret) (hW : mWb b G sh L S A s H locs) (ho : o < sh.1 ∧ sh.2.1 o = 15) (hin : bnd i (sh.2.2 o) = true) (hd : decode cc pc = .ok (.bastore, 1))
    (kk : ∀ (H1 : Heap) (locs1 : List Loc), mWb b G sh L (pI S o i.toNatClampNeg (vp_nar .boolean x)) A s H1 locs1 → W p l e R s m args below meth c H1 locs1 cells slots Q (F0 m (pc + 1) ls rest)) : W p l e R s m args below meth c H locs cells slots Q (F0 m pc ls (.int x :: .int i :: .ref (ad L o) :: rest)) := by
  have he := mws_get (G := G) (L := L) (S := S) ho.1
  rw [mcell_z ho.2] at he
  exact va_zast C.1 C.2.1 hW.1 hW.2.1 hW.2.2.1 hW.2.2.2.1 o 3 he rfl (bnd_in hin) hd (fun H1 locs1 hP hD hS => kk H1 locs1 (hW.set (by rw [mcell_z ho.2]; simp only [pI, up2_upd]) (fun k h => mcell_pI_ne h) hW.2.2.2.2.1 hP hD hS))
theorem m_last {o : Nat} {i : Int32} {x : Int64} (C : mC p s m args meth c cc own nL ret) (hW : mWb b G sh L S A s H locs) (ho : o < sh.1 ∧ sh.2.1 o = 14) (hin : bnd i (sh.2.2 o) = true) (hd : decode cc pc = .ok (.lastore, 1))
    (kk : ∀ (H1 : Heap) (locs1 : List Loc), mWb b G sh L (pJ S o i.toNatClampNeg x) A s H1 locs1 → W p l e R s m args below meth c H1 locs1 cells slots Q (F0 m (pc + 1) ls rest)) : W p l e R s m args below meth c H locs cells slots Q (F0 m pc ls (.long x :: .int i :: .ref (ad L o) :: rest)) := by
  have he := mws_get (G := G) (L := L) (S := S) ho.1
  rw [mcell_j ho.2] at he
  exact va_last C.1 C.2.1 hW.1 hW.2.1 hW.2.2.1 hW.2.2.2.1 o 2 he rfl (bnd_in hin) hd (fun H1 locs1 hP hD hS => kk H1 locs1 (hW.set (by rw [mcell_j ho.2]; simp only [pJ, up2_updL]) (fun k h => mcell_pJ_ne h) hW.2.2.2.2.1 hP hD hS))
theorem m_alen {o t : Nat} (C : mC p s m args meth c cc own nL ret) (hW : mWb b G sh L S A s H locs) (ho : o < sh.1 ∧ sh.2.1 o = t) (ht : t = 12 ∨ t = 13) (hd : decode cc pc = .ok (.arraylength, 1))
    (kk : W p l e R s m args below meth c H locs cells slots Q (F0 m (pc + 1) ls (.int (Int32.ofNat (sh.2.2 o)) :: rest))) : W p l e R s m args below meth c H locs cells slots Q (F0 m pc ls (.ref (ad L o) :: rest)) := by
  have he := mws_get (G := G) (L := L) (S := S) ho.1
  rcases ht with rfl | rfl
  · rw [mcell_b ho.2] at he
    exact va_alen C.1 C.2.1 hW.1 hW.2.1 o 0 he (ty := .byte) rfl rfl hd kk
  · rw [mcell_i ho.2] at he
    exact va_alen C.1 C.2.1 hW.1 hW.2.1 o 1 he (ty := .int) rfl rfl hd kk
/-! a method's beginning and its ends -/
theorem m_enter {y : MethodName} {maxL d : Nat} {av : List Value} {lv : List (Nat × Value)} {out : Option Value} {S' : MS} (hy : plainFor y = true) (hlen : (lg_sl av).length ≤ maxL) (hlv : lv_args 0 av = lv)
    (body : ∀ (p : Program) (e : Env) (s : State) (m : MethodId) (below : List Frame) (meth : Method) (c : Code) (A : Nat → Prop) (ls : Array Slot), mC p s m av.toArray meth c cc y.cls maxL ret → mWb b G sh L S A s s.heap [] → lv_has ls maxL lv →
      W p l e (rmd d) s m av.toArray below meth c s.heap [] 0 0 (MQ below (mQb b G sh L S' out A) av.toArray s 0 0 A) (F0 m 0 ls [])) : Mtb b l y cc maxL ret d G sh L S av out S' := by
  intro sz
  refine va_MetF (cc := cc) (maxL := maxL) (ret := ret) hy rfl ?_
  intro p e s m args below meth c s₁ B hml hv
  obtain ⟨rfl, hsz, ⟨hK, hP, hD, hT, hN⟩, hE⟩ := hv
  have hts := atoms_spec (ws := .code y cc maxL ret :: gtbl) B.pre
  have hown : s.vm.findClass y.cls = some m.cls := findClass_of_methodNamed B.named
  subst hsz
  rw [lg_entry_eq]
  have hl := lv_entry av hlen
  rw [hlv] at hl
  exact body p e s m below meth c (mA sh L s.heap.size) _ ⟨B.exec, B.bytes, hml, hown, fun w h => hts w (List.mem_cons_of_mem _ h), B.returns, B.notSynchronized⟩
    ⟨hK, hP, ⟨hD.1, fun k q hk => Or.inl ⟨k, (mws_at hk).1, (mws_at hk).2⟩⟩, va_S.rf, hT, fun q h => Or.inr h, hN, hE⟩ hl
theorem mWb.end' {t : State} (hW : mWb b G sh L S A s H locs) (ht : t.heap = H) (hw : s.WarmedH t.vm) : mHo b G sh L S t ∧ va_F A s t := by
  obtain ⟨hK, hP, hD, hS, hT, -, hN, -⟩ := hW
  exact ⟨⟨va_K.moved hw.alike hK, by rw [ht]; exact hP, ⟨hD.1, fun _ _ _ => trivial⟩, hT, hN.warm hw⟩, hS.F ht⟩
theorem m_iret {v : Int32} (C : mC p s m args meth c cc own nL (some .int)) (hW : mWb b G sh L S A s H locs) (hd : decode cc pc = .ok (.ireturn, 1)) :
    W p l e R s m args below meth c H locs cells slots (MQ below (mQb b G sh L S (some (.int v)) A) args s cells slots A) (F0 m pc ls [.int v]) :=
  W.iret C.1 C.2.1 C.2.2.2.2.2.1 (fun t ht hw => ⟨⟨rfl, (hW.end' ht hw).1⟩, (hW.end' ht hw).2⟩) hW.2.2.2.1.2.2 hd C.2.2.2.2.2.2
theorem m_zret {v : Int32} (C : mC p s m args meth c cc own nL (some .boolean)) (hW : mWb b G sh L S A s H locs) (hv : isB v = true) (hd : decode cc pc = .ok (.ireturn, 1)) :
    W p l e R s m args below meth c H locs cells slots (MQ below (mQb b G sh L S (some (.int v)) A) args s cells slots A) (F0 m pc ls [.int v]) :=
  W.zret C.1 C.2.1 C.2.2.2.2.2.1 (isB_n hv).1 (fun t ht hw => ⟨⟨rfl, (hW.end' ht hw).1⟩, (hW.end' ht hw).2⟩) hW.2.2.2.1.2.2 hd C.2.2.2.2.2.2
theorem m_lret {v : Int64} (C : mC p s m args meth c cc own nL (some .long)) (hW : mWb b G sh L S A s H locs) (hd : decode cc pc = .ok (.lreturn, 1)) :
    W p l e R s m args below meth c H locs cells slots (MQ below (mQb b G sh L S (some (.long v)) A) args s cells slots A) (F0 m pc ls [.long v]) :=
  W.lret C.1 C.2.1 C.2.2.2.2.2.1 (fun t ht hw => ⟨⟨rfl, (hW.end' ht hw).1⟩, (hW.end' ht hw).2⟩) hW.2.2.2.1.2.2 hd C.2.2.2.2.2.2
theorem m_vret (C : mC p s m args meth c cc own nL none) (hW : mWb b G sh L S A s H locs) (hd : decode cc pc = .ok (.return_, 1)) :
    W p l e R s m args below meth c H locs cells slots (MQ below (mQb b G sh L S none A) args s cells slots A) (F0 m pc ls []) :=
  W.vret C.1 C.2.1 C.2.2.2.2.2.1 (fun t ht hw => ⟨⟨rfl, (hW.end' ht hw).1⟩, (hW.end' ht hw).2⟩) hW.2.2.2.1.2.2 hd C.2.2.2.2.2.2
/-! calls -/
theorem mH_blind {av : List Value} {sz : Nat} : FrameBlind (va_Pc av (fun U => U.heap.size = sz ∧ mHb b G sh L S U)) := by
  intro a U g mk q
  obtain ⟨q0, q1, ⟨qK, qP, qD, qT, qN⟩, qE⟩ := q
  exact ⟨q0, q1, ⟨va_K.moved (u := U) (U := U.calling g mk a) (Vm.Alike.refl U.vm) qK, qP, qD, qT, mN.same (u := U) (U := U.calling g mk a) qN rfl⟩, mE.same (u := U) (U := U.calling g mk a) qE rfl (Vm.Alike.refl U.vm)⟩
theorem mWb.pre {av : List Value} (hW : mWb b G sh L S A s H locs) : ∀ U : State, U.heap = H → s.WarmedH U.vm → va_Pc av (fun U => U.heap.size = H.size ∧ mHb b G sh L S U) av.toArray U := by
  intro U hU hw
  have hfree := mA_free hW
  obtain ⟨hK, hP, hD, hS, hT, -, hN, hE⟩ := hW
  refine ⟨rfl, by rw [hU], ⟨va_K.moved hw.alike hK, by rw [hU]; exact hP, ⟨hD.1, fun _ _ _ => trivial⟩, hT, hN.warm hw⟩, ?_⟩
  rw [hU]
  exact ((hE.kept (fun a h1 h2 => hS.2.1 a h1 h2)).narrow hfree).warm hw
theorem m_after {S' : MS} {out : Option Value} {st0 : List Value} {a : Array Value} (hW : mWb b G sh L S A s H locs) (hr : va_Run p l e R s m args below meth c H locs cells slots 0 0 (F0 m pc ls st0) rest (mQb b G sh L S' out (mA sh L H.size) a) (mA sh L H.size))
    (kk : ∀ (H1 : Heap) (locs1 : List Loc), mWb b G sh L S' A s H1 locs1 → W p l e R s m args below meth c H1 locs1 cells slots Q (F0 m (pc + 3) ls (out.toList ++ rest))) : W p l e R s m args below meth c H locs cells slots Q (F0 m pc ls st0) := by
  intro T hT X
  obtain ⟨v, st₀, t, T', Ls, h0, X', hL, e1, e2, ⟨⟨hv, hH⟩, hz, hk⟩, st⟩ := hr T hT X
  cases hv
  rw [h0] at hz hk
  have hfree := mA_free hW
  obtain ⟨hK, hP, hD, hS, hTy, hA, hN, hE⟩ := hW
  obtain ⟨hK', hP', hD', hT', -⟩ := hH
  have hS' : va_S A s.heap T'.heap (locs ++ Ls) := ⟨Nat.le_trans hS.1 (by rw [e1]; exact hz), fun q h1 h2 => by rw [e1, hk q (Nat.lt_of_lt_of_le h1 hS.1) (fun z => h2 (hfree q z))]; exact hS.2.1 q h1 h2, fun q hq => by
      rcases List.mem_append.mp hq with h | h
      · exact hS.2.2 q h
      · exact hfree _ (hL q h)⟩
  obtain ⟨t2, a1, b1⟩ := kk T'.heap (locs ++ Ls) ⟨hK, by rw [e1]; exact hP', ⟨hD'.1, fun k q hq => by
    have h1 := mws_at hq
    rw [h1.2]
    exact hD.2 k _ (mws_get h1.1)⟩, hS', hT', hA, hN, hE⟩ T' rfl X'
  exact ⟨t2, st t2 a1, b1⟩
theorem m_callV {y : MethodName} {bytes : ByteArray} {maxL d d' o ci idx n : Nat} {rt : Option FieldType} {As st : List Value} {out : Option Value} {S' : MS} (C : mC p s m args meth c cc own nL ret) (hW : mWb b G sh L S A s H locs) (ho : o < sh.1 ∧ sh.2.1 o = ci) (hM : Mtb b l y bytes maxL rt d' G sh L S (.ref (ad L o) :: As) out S') (K : mLm own idx ci y bytes maxL rt n)
    (hc12 : ci < 12) (hn : As.length = n) (hl : ls.size = nL) (hst : st = As.reverse ++ .ref (ad L o) :: rest) (hrm : (rest.map fun v => v.category).sum ≤ 8) (hdd : d' + 1 ≤ d) (hmx : maxL ≤ 45) (hd : decode cc pc = .ok (.invokevirtual idx, 3))
    (kk : ∀ (H1 : Heap) (locs1 : List Loc), mWb b G sh L S' A s H1 locs1 → W p l e (rmd d) s m args below meth c H1 locs1 0 0 Q (F0 m (pc + 3) ls (out.toList ++ rest))) : W p l e (rmd d) s m args below meth c H locs 0 0 Q (F0 m pc ls st) := by
  obtain ⟨cn, T, N, hc, hcn, hlk, hin, hsel, hini, hcode, hmh⟩ := K
  subst hcn
  have hts := C.2.2.2.2.1
  have hR : (rmd d').frames + 1 ≤ (rmd d).frames ∧ 8 + (maxL + 11) + (rmd d').locals ≤ (rmd d).locals := ⟨hdd, by show 8 + (maxL + 11) + 64 * d' ≤ 64 * d; omega⟩
  have he := mws_get (G := G) (L := L) (S := S) ho.1
  rw [mcell_obj ho.2 hc12] at he
  have hrecv := va_recv hW.1 hW.2.1 hc he
  have hbl : FrameBlind (va_Pc (.ref (ad L o) :: As) (fun U => U.heap.size = H.size ∧ mHb b G sh L S U)) := mH_blind
  have hpre := hW.pre (av := .ref (ad L o) :: As)
  subst hst
  rcases hlk with hlk | ⟨host, hlk⟩
  · exact m_after hW (va_runV (rest := rest) ⟨C.1, C.2.1, C.2.2.1, C.2.2.2.1, hts⟩ (hM H.size) ⟨callB_of n hts (tbl_good hcode) rfl rfl rfl (hts _ hini) (hts _ hlk) hmh hR, hts _ hin, hts _ hsel⟩ ⟨hbl, hrecv, hpre⟩ rfl hn hl rfl (lv_room hrm) hd ⟨Nat.le_refl 0, Nat.le_refl 0⟩) kk
  · exact m_after hW (va_runVN (rest := rest) ⟨C.1, C.2.1, C.2.2.1, C.2.2.2.1, hts⟩ (hM H.size) ⟨va_cnB n hts (tbl_good hcode) rfl rfl rfl (hW.2.2.2.2.2.2.1 _ hlk) (hts _ hini) hmh hR, hts _ hin, hts _ hsel⟩ ⟨hbl, hrecv, hpre⟩ rfl hn hl rfl (lv_room hrm) hd ⟨Nat.le_refl 0, Nat.le_refl 0⟩) kk
theorem m_callS {y : MethodName} {bytes : ByteArray} {maxL d d' idx n : Nat} {rt : Option FieldType} {As st : List Value} {out : Option Value} {S' : MS} (C : mC p s m args meth c cc own nL ret) (hW : mWb b G sh L S A s H locs) (hM : Mtb b l y bytes maxL rt d' G sh L S As out S') (K : mLs own idx y bytes maxL rt n)
    (hn : As.length = n) (hl : ls.size = nL) (hst : st = As.reverse ++ rest) (hrm : (rest.map fun v => v.category).sum ≤ 8) (hdd : d' + 1 ≤ d) (hmx : maxL ≤ 45) (hd : decode cc pc = .ok (.invokestatic idx, 3))
    (kk : ∀ (H1 : Heap) (locs1 : List Loc), mWb b G sh L S' A s H1 locs1 → W p l e (rmd d) s m args below meth c H1 locs1 0 0 Q (F0 m (pc + 3) ls (out.toList ++ rest))) : W p l e (rmd d) s m args below meth c H locs 0 0 Q (F0 m pc ls st) := by
  obtain ⟨hlk, hstat, hini, hcode, hmh⟩ := K
  have hts := C.2.2.2.2.1
  have hR : (rmd d').frames + 1 ≤ (rmd d).frames ∧ 8 + (maxL + 11) + (rmd d').locals ≤ (rmd d).locals := ⟨hdd, by show 8 + (maxL + 11) + 64 * d' ≤ 64 * d; omega⟩
  have hbl : FrameBlind (va_Pc As (fun U => U.heap.size = H.size ∧ mHb b G sh L S U)) := mH_blind
  have hpre := hW.pre (av := As)
  subst hst
  rcases hlk with hlk | ⟨host, hlk⟩
  · exact m_after hW (va_runS (rest := rest) ⟨C.1, C.2.1, C.2.2.1, C.2.2.2.1, hts⟩ (hM H.size) ⟨callB_of n hts (tbl_good hcode) rfl rfl rfl (hts _ hini) (hts _ hlk) hmh hR, hts _ hstat⟩ ⟨hbl, hpre⟩ rfl hn hl rfl (lv_room hrm) hd ⟨Nat.le_refl 0, Nat.le_refl 0⟩) kk
  · exact m_after hW (va_runSN (rest := rest) ⟨C.1, C.2.1, C.2.2.1, C.2.2.2.1, hts⟩ (hM H.size) ⟨va_cnB n hts (tbl_good hcode) rfl rfl rfl (hW.2.2.2.2.2.2.1 _ hlk) (hts _ hini) hmh hR, hts _ hstat, trivial⟩ ⟨hbl, hpre⟩ rfl hn hl rfl (lv_room hrm) hd ⟨Nat.le_refl 0, Nat.le_refl 0⟩) kk
end MR
/-! what a function that has answered says -/
theorem gd {b : Bool} {α : Type} {x : Option α} {r : α} (h : (if b = true then x else none) = some r) : b = true ∧ x = some r := by
  cases b with
  | false => simp at h
  | true => exact ⟨rfl, by simpa using h⟩
theorem bd {α β : Type} {x : Option α} {f : α → Option β} {r : β} (h : x.bind f = some r) : ∃ a, x = some a ∧ f a = some r := Option.bind_eq_some_iff.mp h
theorem nz {α : Type} {c : Prop} [Decidable c] {x : Option α} {r : α} (h : (if c then none else x) = some r) : ¬ c ∧ x = some r := by
  by_cases hc : c
  · rw [if_pos hc] at h; cases h
  · rw [if_neg hc] at h; exact ⟨hc, h⟩
