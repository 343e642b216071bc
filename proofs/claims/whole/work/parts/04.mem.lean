/-- the tables' words that hold at every call -/
def gtbl : List Cond := lw_tbl.filter goodWord
theorem gm {w : Cond} (i : Nat) (h : lw_tbl[i]? = some w) (hg : goodWord w = true) : w ∈ gtbl := List.mem_filter.mpr ⟨List.mem_of_getElem? h, hg⟩
def isNest : Cond → Bool
  | .fieldLinkNest _ _ _ _ _ _ => true
  | .methodLinkNest _ _ _ _ => true
  | _ => false
/-- the words on private members of nest mates -/
def ntbl : List Cond := lw_tbl.filter isNest
theorem nm_ {w : Cond} (i : Nat) (h : lw_tbl[i]? = some w) (hg : isNest w = true) : w ∈ ntbl := List.mem_filter.mpr ⟨List.mem_of_getElem? h, hg⟩
def mN (U : State) : Prop := ∀ w ∈ ntbl, va_Nw w U
theorem mN.warm {s U : State} (h : mN s) (hW : s.WarmedH U.vm) : mN U := by
  intro w hw
  have h1 := h w hw
  have h2 : isNest w = true := (List.mem_filter.mp hw).2
  cases w <;> first | exact va_Nw.warmF hW h1 | exact va_Nw.warmM hW h1 | (simp [isNest] at h2; done)
theorem mN.same {u U : State} (h : mN u) (he : u.vm = U.vm) : mN U := by
  intro w hw
  have h1 := h w hw
  have h2 : isNest w = true := (List.mem_filter.mp hw).2
  cases w <;> first | exact va_Nw.same rfl he h1 | (simp [isNest] at h2; done)
/-! ===== the memory of one side (the class's cells, or the reference's): ints, references and longs, by cell and place ===== -/
abbrev MS : Type := (Nat → Nat → Int32) × (Nat → Nat → Nat) × (Nat → Nat → Int64)
/-- the shape: how many cells, the kind of each (0 .. 11 the classes, 12 B, 13 I, 14 J, 15 Z, 16 Law[], 17 World[]), the length of each array -/
abbrev Sh : Type := Nat × (Nat → Nat) × (Nat → Nat)
abbrev Gv : Type := va_G × (Nat → ClassId)
def up2 {α : Type} (f : Nat → Nat → α) (o k : Nat) (v : α) : Nat → Nat → α := fun a b => if a = o ∧ b = k then v else f a b
def gI (S : MS) (o k : Nat) : Int32 := S.1 o k
def gR (S : MS) (o k : Nat) : Nat := S.2.1 o k
def gJ (S : MS) (o k : Nat) : Int64 := S.2.2 o k
def pI (S : MS) (o k : Nat) (v : Int32) : MS := (up2 S.1 o k v, S.2.1, S.2.2)
def pR (S : MS) (o k v : Nat) : MS := (S.1, up2 S.2.1 o k v, S.2.2)
def pJ (S : MS) (o k : Nat) (v : Int64) : MS := (S.1, S.2.1, up2 S.2.2 o k v)
/-- the kinds of a class's fields; 99: no reference -/
def kfs (c : Nat) : List Nat := match c with
  | 0 => [13, 8]
  | 1 => [13, 14, 99]
  | 2 => [13, 99]
  | 3 => [13, 13, 99]
  | 4 => [13, 13, 17, 0, 99, 99]
  | 5 => [13, 13, 12, 99, 99, 99, 99, 99, 99, 8, 1, 99, 99, 99, 99, 99, 99, 99, 99]
  | 6 => [7, 15, 99]
  | 7 => [13, 99, 99, 99]
  | 8 => [15, 13, 7, 7, 7, 7, 7, 16, 99, 99, 99, 99, 99, 99, 99, 99]
  | 9 => [13, 13, 13, 99, 99, 99, 99, 99, 99, 99, 99, 99, 99, 99, 99, 99]
  | 10 => [12, 8, 8, 5, 0, 4, 3, 2, 6, 9, 9, 9, 99, 99, 99, 99]
  | 11 => [99, 13, 99, 13, 13, 13, 13, 13, 13, 13, 13, 13, 13, 13, 13, 13, 13, 13, 13, 13, 13, 13, 13, 13, 13, 13, 99, 99, 99, 99, 99, 99, 99, 99, 99, 99, 99, 99, 99, 99, 14, 14, 99, 13, 13, 13, 13, 13, 13, 13, 13, 13, 13, 13, 13, 99, 99, 99, 99, 99, 99, 99, 13, 13, 13, 99, 99, 99, 13, 13, 13, 15, 13, 15]
  | _ => []
def ad (L : List Nat) (k : Nat) : Nat := L.getD k 0
def mfs (c : Nat) (L : List Nat) (S : MS) (k : Nat) : List Value := (kfs c).mapIdx (fun j t => if t = 99 then Value.int (S.1 k j) else Value.ref (ad L (S.2.1 k j)))
def mcell (G : Gv) (sh : Sh) (L : List Nat) (S : MS) (k : Nat) : va_E :=
  if sh.2.1 k < 12 then .inr (sh.2.1 k, mfs (sh.2.1 k) L S k)
  else if sh.2.1 k = 14 then .inl (G.2 14, sh.2.2 k, .inr (.inl (S.2.2 k)))
  else if sh.2.1 k < 16 then .inl (G.2 (sh.2.1 k), sh.2.2 k, .inl (S.1 k))
  else .inl (G.2 (sh.2.1 k), sh.2.2 k, .inr (.inr (.inr (.inr (fun j => some (ad L (S.2.1 k j)))))))
def mws (G : Gv) (sh : Sh) (L : List Nat) (S : MS) : va_W := (List.range sh.1).map (fun k => (ad L k, mcell G sh L S k))
/-- which kind of cell a place refers to; 99: it is no reference -/
def mrk (sh : Sh) (o j : Nat) : Nat :=
  if sh.2.1 o < 12 then (kfs (sh.2.1 o)).getD j 99
  else if sh.2.1 o = 16 then (if j < sh.2.2 o then 1 else 99)
  else if sh.2.1 o = 17 then (if j < sh.2.2 o then 9 else 99) else 99
def mWT (sh : Sh) (S : MS) : Prop := ∀ o j, o < sh.1 → mrk sh o j ≠ 99 → S.2.1 o j < sh.1 ∧ sh.2.1 (S.2.1 o j) = mrk sh o j
def mtys (G : Gv) : List (ClassId × FieldType) := [(G.2 12, .byte), (G.2 13, .int), (G.2 14, .long), (G.2 15, .boolean), (G.2 16, .object "ShadowTwin$Law"), (G.2 17, .object "ShadowTwin$World")]
def mH (G : Gv) (sh : Sh) (L : List Nat) (S : MS) (U : State) : Prop := va_K G.1 vwCl (mtys G) U ∧ va_P G.1 vwCl (mws G sh L S) U.heap ∧ va_D (fun _ => True) (mws G sh L S) ∧ mWT sh S ∧ mN U
def mA (sh : Sh) (L : List Nat) (sz : Nat) : Nat → Prop := fun q => (∃ k, k < sh.1 ∧ q = ad L k) ∨ sz ≤ q
def mW (G : Gv) (sh : Sh) (L : List Nat) (S : MS) (A : Nat → Prop) (s : State) (H : Heap) (locs : List Loc) : Prop :=
  va_K G.1 vwCl (mtys G) s ∧ va_P G.1 vwCl (mws G sh L S) H ∧ va_D A (mws G sh L S) ∧ va_S A s.heap H locs ∧ mWT sh S ∧ (∀ q, s.heap.size ≤ q → A q) ∧ mN s
abbrev mC (p : Program) (s : State) (m : MethodId) (args : Array Value) (meth : Method) (c : Code) (cc : ByteArray) (own : String) (nL : Nat) (ret : Option FieldType) : Prop :=
  p.tables.exec = Jvm.exec ∧ c.code = cc ∧ c.maxLocals = nL ∧ s.vm.findClass own = some m.cls ∧ (∀ w ∈ gtbl, w.before args s = true) ∧ meth.sig.returnType = ret ∧ meth.locks = false
abbrev rmd (d : Nat) : Room := { frames := d, cells := 0, slots := 0, locals := 64 * d }
def mQ (G : Gv) (sh : Sh) (L : List Nat) (S' : MS) (out : Option Value) (A : Nat → Prop) : Array Value → State → Outcome → State → Prop := fun _ st oc t => (oc = .returned out ∧ mH G sh L S' t) ∧ va_F A st t
/-- a method's contract: called with these values over the memory S it returns 'out', over the memory S' -/
def Mt (l : Launch) (y : MethodName) (cc : ByteArray) (maxL : Nat) (ret : Option FieldType) (d : Nat) (G : Gv) (sh : Sh) (L : List Nat) (S : MS) (av : List Value) (out : Option Value) (S' : MS) : Prop :=
  ∀ sz, Met l y (.code y cc maxL ret :: gtbl) (rmd d) (va_Pc av (fun U => U.heap.size = sz ∧ mH G sh L S U)) (mQ G sh L S' out (mA sh L sz)) 0 0 (mA sh L sz)
/-! cells and the list of them -/
theorem mws_len (G : Gv) (sh : Sh) (L : List Nat) (S : MS) : (mws G sh L S).length = sh.1 := by simp [mws]
theorem mws_get {G : Gv} {sh : Sh} {L : List Nat} {S : MS} {o : Nat} (h : o < sh.1) : (mws G sh L S)[o]? = some (ad L o, mcell G sh L S o) := by
  simp [mws, h]
theorem mws_at {G : Gv} {sh : Sh} {L : List Nat} {S : MS} {k : Nat} {q : Nat × va_E} (h : (mws G sh L S)[k]? = some q) : k < sh.1 ∧ q.1 = ad L k := by
  have hk : k < sh.1 := by
    have := (List.getElem?_eq_some_iff.mp h).1
    rwa [mws_len] at this
  rw [mws_get hk] at h
  cases h
  exact ⟨hk, rfl⟩
theorem mws_set {G : Gv} {sh : Sh} {L : List Nat} {S S' : MS} {o : Nat} (e : va_E) (he : mcell G sh L S' o = e) (hk : ∀ k, k ≠ o → mcell G sh L S' k = mcell G sh L S k) : (mws G sh L S).set o (ad L o, e) = mws G sh L S' := by
  apply List.ext_getElem?
  intro k
  by_cases hl : k < sh.1
  · by_cases hko : k = o
    · subst hko
      rw [List.getElem?_set_self (by rw [mws_len]; exact hl), mws_get hl, he]
    · rw [List.getElem?_set_ne (Ne.symm hko), mws_get hl, mws_get hl, hk k hko]
  · rw [List.getElem?_eq_none (by simp [mws]; omega), List.getElem?_eq_none (by simp [mws]; omega)]
theorem mcell_obj {G : Gv} {sh : Sh} {L : List Nat} {S : MS} {o ci : Nat} (h : sh.2.1 o = ci) (hc : ci < 12) : mcell G sh L S o = .inr (ci, mfs ci L S o) := by
  unfold mcell; rw [h, if_pos hc]
theorem mcell_j {G : Gv} {sh : Sh} {L : List Nat} {S : MS} {o : Nat} (h : sh.2.1 o = 14) : mcell G sh L S o = .inl (G.2 14, sh.2.2 o, .inr (.inl (S.2.2 o))) := by
  unfold mcell; rw [h]; rfl
theorem mcell_b {G : Gv} {sh : Sh} {L : List Nat} {S : MS} {o : Nat} (h : sh.2.1 o = 12) : mcell G sh L S o = .inl (G.2 12, sh.2.2 o, .inl (S.1 o)) := by
  unfold mcell; rw [h]; rfl
theorem mcell_i {G : Gv} {sh : Sh} {L : List Nat} {S : MS} {o : Nat} (h : sh.2.1 o = 13) : mcell G sh L S o = .inl (G.2 13, sh.2.2 o, .inl (S.1 o)) := by
  unfold mcell; rw [h]; rfl
theorem mcell_z {G : Gv} {sh : Sh} {L : List Nat} {S : MS} {o : Nat} (h : sh.2.1 o = 15) : mcell G sh L S o = .inl (G.2 15, sh.2.2 o, .inl (S.1 o)) := by
  unfold mcell; rw [h]; rfl
theorem mcell_r {G : Gv} {sh : Sh} {L : List Nat} {S : MS} {o t : Nat} (h : sh.2.1 o = t) (ht : t = 16 ∨ t = 17) : mcell G sh L S o = .inl (G.2 t, sh.2.2 o, .inr (.inr (.inr (.inr (fun j => some (ad L (S.2.1 o j))))))) := by
  unfold mcell; rw [h]; rcases ht with rfl | rfl <;> rfl
theorem up2_o {α : Type} {f : Nat → Nat → α} {o k : Nat} {v : α} {a : Nat} (h : a ≠ o) : up2 f o k v a = f a := by
  funext b; simp [up2, h]
theorem up2_upd (f : Nat → Nat → Int32) (o k : Nat) (v : Int32) : up2 f o k v o = upd (f o) k v := by
  funext b; simp [up2, upd]
theorem up2_updL (f : Nat → Nat → Int64) (o k : Nat) (v : Int64) : up2 f o k v o = vp_updL (f o) k v := by
  funext b; simp [up2, vp_updL]
/-- a write of an int changes one cell -/
theorem mcell_pI_ne {G : Gv} {sh : Sh} {L : List Nat} {S : MS} {o j k : Nat} {v : Int32} (h : k ≠ o) : mcell G sh L (pI S o j v) k = mcell G sh L S k := by
  unfold mcell mfs; simp only [pI, up2_o h]
theorem mcell_pR_ne {G : Gv} {sh : Sh} {L : List Nat} {S : MS} {o j k v : Nat} (h : k ≠ o) : mcell G sh L (pR S o j v) k = mcell G sh L S k := by
  unfold mcell mfs; simp only [pR, up2_o h]
theorem mcell_pJ_ne {G : Gv} {sh : Sh} {L : List Nat} {S : MS} {o j k : Nat} {v : Int64} (h : k ≠ o) : mcell G sh L (pJ S o j v) k = mcell G sh L S k := by
  unfold mcell mfs; simp only [pJ, up2_o h]
theorem mfs_len (c : Nat) (L : List Nat) (S : MS) (k : Nat) : (mfs c L S k).length = (kfs c).length := by simp [mfs]
theorem mfs_get {c : Nat} {L : List Nat} {S : MS} {k j t : Nat} (h : (kfs c)[j]? = some t) : (mfs c L S k)[j]? = some (if t = 99 then Value.int (S.1 k j) else Value.ref (ad L (S.2.1 k j))) := by
  simp [mfs, List.getElem?_mapIdx, h]
theorem mfs_pI {c : Nat} {L : List Nat} {S : MS} {k j : Nat} {v : Int32} (h : (kfs c)[j]? = some 99) : mfs c L (pI S k j v) k = (mfs c L S k).set j (.int v) := by
  apply List.ext_getElem?
  intro i
  by_cases hi : i = j
  · subst hi
    have hl : i < (mfs c L S k).length := by rw [mfs_len]; exact (List.getElem?_eq_some_iff.mp h).1
    rw [List.getElem?_set_self hl, mfs_get h]
    simp [pI, up2]
  · rw [List.getElem?_set_ne (Ne.symm hi)]
    simp only [mfs, List.getElem?_mapIdx]
    cases (kfs c)[i]? with
    | none => rfl
    | some t => simp [pI, up2, hi]
theorem mfs_pR {c : Nat} {L : List Nat} {S : MS} {k j v t : Nat} (h : (kfs c)[j]? = some t) (ht : t ≠ 99) : mfs c L (pR S k j v) k = (mfs c L S k).set j (.ref (ad L v)) := by
  apply List.ext_getElem?
  intro i
  by_cases hi : i = j
  · subst hi
    have hl : i < (mfs c L S k).length := by rw [mfs_len]; exact (List.getElem?_eq_some_iff.mp h).1
    rw [List.getElem?_set_self hl, mfs_get h]
    simp [pR, up2, ht]
  · rw [List.getElem?_set_ne (Ne.symm hi)]
    simp only [mfs, List.getElem?_mapIdx]
    cases (kfs c)[i]? with
    | none => rfl
    | some t => simp [pR, up2, hi]
theorem mWT_pR {sh : Sh} {S : MS} {o j v : Nat} (h : mWT sh S) (hv : v < sh.1 ∧ sh.2.1 v = mrk sh o j) : mWT sh (pR S o j v) := by
  intro a b ha hb
  by_cases hab : a = o ∧ b = j
  · obtain ⟨rfl, rfl⟩ := hab
    simpa [pR, up2] using hv
  · have := h a b ha hb
    simpa [pR, up2, hab] using this
theorem mrk_obj {sh : Sh} {o ci j t : Nat} (h : sh.2.1 o = ci) (hc : ci < 12) (hj : (kfs ci)[j]? = some t) : mrk sh o j = t := by
  unfold mrk; rw [h, if_pos hc]; simp [List.getD, hj]
theorem mA_free {sh : Sh} {L : List Nat} {G : Gv} {S : MS} {A : Nat → Prop} {s : State} {H : Heap} {locs : List Loc} (hW : mW G sh L S A s H locs) : ∀ q, mA sh L H.size q → A q := by
  obtain ⟨-, -, hD, hS, -, hA, -⟩ := hW
  intro q h
  rcases h with ⟨k, hk, rfl⟩ | h
  · exact hD.2 k _ (mws_get hk)
  · exact hA q (Nat.le_trans hS.1 h)
