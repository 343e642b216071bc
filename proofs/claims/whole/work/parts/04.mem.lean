/-- the tables' words that hold at every call -/
def gtbl : List Cond := lw_tbl.filter goodWord
theorem gm {w : Cond} (i : Nat) (h : lw_tbl[i]? = some w) (hg : goodWord w = true) : w ∈ gtbl := List.mem_filter.mpr ⟨List.mem_of_getElem? h, hg⟩
def isNest : Cond → Bool
  | .fieldLinkNest _ _ _ _ _ _ => true
  | .methodLinkNest _ _ _ _ => true
  | _ => false
/-- the words on private members of nest mates -/
def ntbl : List Cond := lw_tbl.filter isNest
theorem nm_ {w : Cond} (i : Nat) (h : lw_tbl[i]? = some w) (hg : isNest w = true) : w ∈ ntbl := List.mem_filter.mpr ⟨List.mem_of_getElem? h, hg⟩
def mN (U : State) : Prop := ∀ w ∈ ntbl, va_Nw w U
theorem mN.warm {s U : State} (h : mN s) (hW : s.WarmedH U.vm) : mN U := by
  intro w hw
  have h1 := h w hw
  have h2 : isNest w = true := (List.mem_filter.mp hw).2
  cases w <;> first | exact va_Nw.warmF hW h1 | exact va_Nw.warmM hW h1 | (simp [isNest] at h2; done)
theorem mN.same {u U : State} (h : mN u) (he : u.vm = U.vm) : mN U := by
  intro w hw
  have h1 := h w hw
  have h2 : isNest w = true := (List.mem_filter.mp hw).2
  cases w <;> first | exact va_Nw.same rfl he h1 | (simp [isNest] at h2; done)
/-! ===== the memory of one side (the class's cells, or the reference's): ints, references and longs, by cell and place ===== -/
abbrev MS : Type := (Nat → Nat → Int32) × (Nat → Nat → Nat) × (Nat → Nat → Int64)
/-- the shape: how many cells, the kind of each (0 .. 11 the classes, 12 B, 13 I, 14 J, 15 Z, 16 Law[], 17 World[]), the length of each array -/
abbrev Sh : Type := Nat × (Nat → Nat) × (Nat → Nat)
/-- the classes' numbers and slots; the array classes; where the text constant lies, and its bytes; whether the formatter is null, and where it is -/
abbrev Gv : Type := va_G × (Nat → ClassId) × Nat × Nat
abbrev lngT : String := "room her wall sun lamp step doing man cloud seed law long fond tired or and not far met trod done weary lit hour "
/-- the words of the language, byte by byte -/
def lngB : List Int32 := [114, 111, 111, 109, 32, 104, 101, 114, 32, 119, 97, 108, 108, 32, 115, 117, 110, 32, 108, 97, 109, 112, 32, 115, 116, 101, 112, 32, 100, 111, 105, 110, 103, 32, 109, 97, 110, 32, 99, 108, 111, 117, 100, 32, 115, 101, 101, 100, 32, 108, 97, 119, 32, 108, 111, 110, 103, 32, 102, 111, 110, 100, 32, 116, 105, 114, 101, 100, 32, 111, 114, 32, 97, 110, 100, 32, 110, 111, 116, 32, 102, 97, 114, 32, 109, 101, 116, 32, 116, 114, 111, 100, 32, 100, 111, 110, 101, 32, 119, 101, 97, 114, 121, 32, 108, 105, 116, 32, 104, 111, 117, 114, 32]
/-- what lies outside the cells and never changes: the text constant, two statics of the JDK's -/
def mE (G : Gv) (A : Nat → Prop) (U : State) (H : Heap) : Prop :=
  vk_S 1 [lngB.length] [lngB] (fun _ => G.2.2.1) (fun _ => G.2.2.2) A U H ∧ va_Z "java/lang/String" "COMPACT_STRINGS" "Z" (.int 1) A U H ∧ va_Zq "jdk/internal/util/Preconditions" "SIOOBE_FORMATTER" "Ljava/util/function/BiFunction;" A U H ∧ vk_R "ShadowTwinModel" 206 lngT G.2.2.1 U ∧ vk_R "ShadowTwin$Reader" 38 lngT G.2.2.1 U ∧ va_AO "ShadowTwin$Law" U ∧ va_AO "ShadowTwin$World" U
theorem mE.kept {G : Gv} {A : Nat → Prop} {U : State} {H H1 : Heap} (h : mE G A U H) (hq : ∀ a : Nat, a < H.size → ¬ A a → H1[a]? = H[a]?) : mE G A U H1 := ⟨h.1.kept hq, h.2.1.kept hq, h.2.2.1.kept hq, h.2.2.2⟩
theorem mE.narrow {G : Gv} {A B : Nat → Prop} {U : State} {H : Heap} (h : mE G A U H) (hAB : ∀ q, B q → A q) : mE G B U H := ⟨h.1.narrow hAB, h.2.1.narrow hAB, h.2.2.1.narrow hAB, h.2.2.2⟩
theorem mE.warm {G : Gv} {A : Nat → Prop} {s U : State} {H : Heap} (h : mE G A s H) (hW : s.WarmedH U.vm) : mE G A U H := ⟨h.1.moved hW.alike, h.2.1.moved hW.alike, h.2.2.1.moved hW.alike, h.2.2.2.1.warm hW, h.2.2.2.2.1.warm hW, h.2.2.2.2.2.1.moved hW.alike, h.2.2.2.2.2.2.moved hW.alike⟩
theorem mE.same {G : Gv} {A : Nat → Prop} {u U : State} {H : Heap} (h : mE G A u H) (he : u.vm = U.vm) (ha : u.vm.Alike U.vm) : mE G A U H := ⟨h.1.moved ha, h.2.1.moved ha, h.2.2.1.moved ha, h.2.2.2.1.same he.symm, h.2.2.2.2.1.same he.symm, h.2.2.2.2.2.1.moved ha, h.2.2.2.2.2.2.moved ha⟩
def up2 {α : Type} (f : Nat → Nat → α) (o k : Nat) (v : α) : Nat → Nat → α := fun a b => if a = o ∧ b = k then v else f a b
def gI (S : MS) (o k : Nat) : Int32 := S.1 o k
def gR (S : MS) (o k : Nat) : Nat := S.2.1 o k
def gJ (S : MS) (o k : Nat) : Int64 := S.2.2 o k
def pI (S : MS) (o k : Nat) (v : Int32) : MS := (up2 S.1 o k v, S.2.1, S.2.2)
def pR (S : MS) (o k v : Nat) : MS := (S.1, up2 S.2.1 o k v, S.2.2)
def pJ (S : MS) (o k : Nat) (v : Int64) : MS := (S.1, S.2.1, up2 S.2.2 o k v)
/-- the kinds of a class's fields; 99: no reference -/
def kfs (c : Nat) : List Nat := match c with
  | 0 => [13, 8]
  | 1 => [13, 14, 99]
  | 2 => [13, 99]
  | 3 => [13, 13, 99]
  | 4 => [13, 13, 17, 0, 99, 99]
  | 5 => [13, 13, 12, 99, 99, 99, 99, 99, 99, 8, 1, 99, 99, 99, 99, 99, 99, 99, 99]
  | 6 => [7, 15, 99]
  | 7 => [13, 99, 99, 99]
  | 8 => [15, 13, 7, 7, 7, 7, 7, 16, 99, 99, 99, 99, 99, 99, 99, 99]
  | 9 => [13, 13, 13, 99, 99, 99, 99, 99, 99, 99, 99, 99, 99, 99, 99, 99]
  | 10 => [12, 8, 8, 5, 0, 4, 3, 2, 6, 9, 9, 9, 99, 99, 99, 99]
  | 11 => [99, 13, 99, 13, 13, 13, 13, 13, 13, 13, 13, 13, 13, 13, 13, 13, 13, 13, 13, 13, 13, 13, 13, 13, 13, 13, 99, 99, 99, 99, 99, 99, 99, 99, 99, 99, 99, 99, 99, 99, 14, 14, 99, 13, 13, 13, 13, 13, 13, 13, 13, 13, 13, 13, 13, 99, 99, 99, 99, 99, 99, 99, 13, 13, 13, 99, 99, 99, 13, 13, 13, 15, 13, 15]
  | _ => []
def ad (L : List Nat) (k : Nat) : Nat := L.getD k 0
/-- null, among the cells' numbers -/
def nul : Nat := 1000000
def rv (L : List Nat) (x : Nat) : Value := if x = nul then .null else .ref (ad L x)
def ro (L : List Nat) (x : Nat) : Option Nat := if x = nul then none else some (ad L x)
theorem rv_ref {L : List Nat} {x : Nat} (h : x ≠ nul) : rv L x = .ref (ad L x) := if_neg h
theorem ro_ref {L : List Nat} {x : Nat} (h : x ≠ nul) : ro L x = some (ad L x) := if_neg h
theorem ro_rv (L : List Nat) (x : Nat) : va_rf (ro L x) = rv L x := by
  unfold ro rv; split <;> rfl
def mfs (c : Nat) (L : List Nat) (S : MS) (k : Nat) : List Value := (kfs c).mapIdx (fun j t => if t = 99 then Value.int (S.1 k j) else rv L (S.2.1 k j))
def mcell (G : Gv) (sh : Sh) (L : List Nat) (S : MS) (k : Nat) : va_E :=
  if sh.2.1 k < 12 then .inr (sh.2.1 k, mfs (sh.2.1 k) L S k)
  else if sh.2.1 k = 14 then .inl (G.2.1 14, sh.2.2 k, .inr (.inl (S.2.2 k)))
  else if sh.2.1 k < 16 then .inl (G.2.1 (sh.2.1 k), sh.2.2 k, .inl (S.1 k))
  else .inl (G.2.1 (sh.2.1 k), sh.2.2 k, .inr (.inr (.inr (.inr (fun j => ro L (S.2.1 k j))))))
def mws (G : Gv) (sh : Sh) (L : List Nat) (S : MS) : va_W := (List.range sh.1).map (fun k => (ad L k, mcell G sh L S k))
/-- which kind of cell a place refers to; 99: it is no reference -/
def mrk (sh : Sh) (o j : Nat) : Nat :=
  if sh.2.1 o < 12 then (kfs (sh.2.1 o)).getD j 99
  else if sh.2.1 o = 16 then (if j < sh.2.2 o then 1 else 99)
  else if sh.2.1 o = 17 then (if j < sh.2.2 o then 9 else 99) else 99
/-- references are of their kinds; b: none of them is null -/
def mWT (b : Bool) (sh : Sh) (S : MS) : Prop := sh.1 ≤ 1000 ∧ ∀ o j, o < sh.1 → mrk sh o j ≠ 99 → (b = false → S.2.1 o j ≠ nul) → S.2.1 o j < sh.1 ∧ sh.2.1 (S.2.1 o j) = mrk sh o j
def mtys (G : Gv) : List (ClassId × FieldType) := [(G.2.1 12, .byte), (G.2.1 13, .int), (G.2.1 14, .long), (G.2.1 15, .boolean), (G.2.1 16, .object "ShadowTwin$Law"), (G.2.1 17, .object "ShadowTwin$World")]
def mA (sh : Sh) (L : List Nat) (sz : Nat) : Nat → Prop := fun q => (∃ k, k < sh.1 ∧ q = ad L k) ∨ sz ≤ q
def mHo (b : Bool) (G : Gv) (sh : Sh) (L : List Nat) (S : MS) (U : State) : Prop := va_K G.1 vwCl (mtys G) U ∧ va_P G.1 vwCl (mws G sh L S) U.heap ∧ va_D (fun _ => True) (mws G sh L S) ∧ mWT b sh S ∧ mN U
def mHb (b : Bool) (G : Gv) (sh : Sh) (L : List Nat) (S : MS) (U : State) : Prop := mHo b G sh L S U ∧ mE G (mA sh L U.heap.size) U U.heap
abbrev mH : Gv → Sh → List Nat → MS → State → Prop := mHb true
def mWb (b : Bool) (G : Gv) (sh : Sh) (L : List Nat) (S : MS) (A : Nat → Prop) (s : State) (H : Heap) (locs : List Loc) : Prop :=
  va_K G.1 vwCl (mtys G) s ∧ va_P G.1 vwCl (mws G sh L S) H ∧ va_D A (mws G sh L S) ∧ va_S A s.heap H locs ∧ mWT b sh S ∧ (∀ q, s.heap.size ≤ q → A q) ∧ mN s ∧ mE G A s s.heap
abbrev mW : Gv → Sh → List Nat → MS → (Nat → Prop) → State → Heap → List Loc → Prop := mWb true
abbrev mC (p : Program) (s : State) (m : MethodId) (args : Array Value) (meth : Method) (c : Code) (cc : ByteArray) (own : String) (nL : Nat) (ret : Option FieldType) : Prop :=
  p.tables.exec = Jvm.exec ∧ c.code = cc ∧ c.maxLocals = nL ∧ s.vm.findClass own = some m.cls ∧ (∀ w ∈ gtbl, w.before args s = true) ∧ meth.sig.returnType = ret ∧ meth.locks = false
abbrev rmd (d : Nat) : Room := { frames := d, cells := 0, slots := 0, locals := 64 * d }
def mQb (b : Bool) (G : Gv) (sh : Sh) (L : List Nat) (S' : MS) (out : Option Value) (A : Nat → Prop) : Array Value → State → Outcome → State → Prop := fun _ st oc t => (oc = .returned out ∧ mHo b G sh L S' t) ∧ va_F A st t
abbrev mQ : Gv → Sh → List Nat → MS → Option Value → (Nat → Prop) → Array Value → State → Outcome → State → Prop := mQb true
/-- a method's contract: called with these values over the memory S it returns 'out', over the memory S' -/
def Mtb (b : Bool) (l : Launch) (y : MethodName) (cc : ByteArray) (maxL : Nat) (ret : Option FieldType) (d : Nat) (G : Gv) (sh : Sh) (L : List Nat) (S : MS) (av : List Value) (out : Option Value) (S' : MS) : Prop :=
  ∀ sz, Met l y (.code y cc maxL ret :: gtbl) (rmd d) (va_Pc av (fun U => U.heap.size = sz ∧ mHb b G sh L S U)) (mQb b G sh L S' out (mA sh L sz)) 0 0 (mA sh L sz)
abbrev Mt : Launch → MethodName → ByteArray → Nat → Option FieldType → Nat → Gv → Sh → List Nat → MS → List Value → Option Value → MS → Prop := Mtb true
/-! cells and the list of them -/
theorem mws_len (G : Gv) (sh : Sh) (L : List Nat) (S : MS) : (mws G sh L S).length = sh.1 := by simp [mws]
theorem mws_get {G : Gv} {sh : Sh} {L : List Nat} {S : MS} {o : Nat} (h : o < sh.1) : (mws G sh L S)[o]? = some (ad L o, mcell G sh L S o) := by
  simp [mws, h]
theorem mws_at {G : Gv} {sh : Sh} {L : List Nat} {S : MS} {k : Nat} {q : Nat × va_E} (h : (mws G sh L S)[k]? = some q) : k < sh.1 ∧ q.1 = ad L k := by
  have hk : k < sh.1 := by
    have := (List.getElem?_eq_some_iff.mp h).1
    rwa [mws_len] at this
  rw [mws_get hk] at h
  cases h
  exact ⟨hk, rfl⟩
theorem mws_set {G : Gv} {sh : Sh} {L : List Nat} {S S' : MS} {o : Nat} (e : va_E) (he : mcell G sh L S' o = e) (hk : ∀ k, k ≠ o → mcell G sh L S' k = mcell G sh L S k) : (mws G sh L S).set o (ad L o, e) = mws G sh L S' := by
  apply List.ext_getElem?
  intro k
  by_cases hl : k < sh.1
  · by_cases hko : k = o
    · subst hko
      rw [List.getElem?_set_self (by rw [mws_len]; exact hl), mws_get hl, he]
    · rw [List.getElem?_set_ne (Ne.symm hko), mws_get hl, mws_get hl, hk k hko]
  · rw [List.getElem?_eq_none (by simp [mws]; omega), List.getElem?_eq_none (by simp [mws]; omega)]
theorem mcell_obj {G : Gv} {sh : Sh} {L : List Nat} {S : MS} {o ci : Nat} (h : sh.2.1 o = ci) (hc : ci < 12) : mcell G sh L S o = .inr (ci, mfs ci L S o) := by
  unfold mcell; rw [h, if_pos hc]
theorem mcell_j {G : Gv} {sh : Sh} {L : List Nat} {S : MS} {o : Nat} (h : sh.2.1 o = 14) : mcell G sh L S o = .inl (G.2.1 14, sh.2.2 o, .inr (.inl (S.2.2 o))) := by
  unfold mcell; rw [h]; rfl
theorem mcell_b {G : Gv} {sh : Sh} {L : List Nat} {S : MS} {o : Nat} (h : sh.2.1 o = 12) : mcell G sh L S o = .inl (G.2.1 12, sh.2.2 o, .inl (S.1 o)) := by
  unfold mcell; rw [h]; rfl
theorem mcell_i {G : Gv} {sh : Sh} {L : List Nat} {S : MS} {o : Nat} (h : sh.2.1 o = 13) : mcell G sh L S o = .inl (G.2.1 13, sh.2.2 o, .inl (S.1 o)) := by
  unfold mcell; rw [h]; rfl
theorem mcell_z {G : Gv} {sh : Sh} {L : List Nat} {S : MS} {o : Nat} (h : sh.2.1 o = 15) : mcell G sh L S o = .inl (G.2.1 15, sh.2.2 o, .inl (S.1 o)) := by
  unfold mcell; rw [h]; rfl
theorem mcell_r {G : Gv} {sh : Sh} {L : List Nat} {S : MS} {o t : Nat} (h : sh.2.1 o = t) (ht : t = 16 ∨ t = 17) : mcell G sh L S o = .inl (G.2.1 t, sh.2.2 o, .inr (.inr (.inr (.inr (fun j => ro L (S.2.1 o j)))))) := by
  unfold mcell; rw [h]; rcases ht with rfl | rfl <;> rfl
theorem up2_o {α : Type} {f : Nat → Nat → α} {o k : Nat} {v : α} {a : Nat} (h : a ≠ o) : up2 f o k v a = f a := by
  funext b; simp [up2, h]
theorem up2_upd (f : Nat → Nat → Int32) (o k : Nat) (v : Int32) : up2 f o k v o = upd (f o) k v := by
  funext b; simp [up2, upd]
theorem up2_updL (f : Nat → Nat → Int64) (o k : Nat) (v : Int64) : up2 f o k v o = vp_updL (f o) k v := by
  funext b; simp [up2, vp_updL]
/-- a write of an int changes one cell -/
theorem mcell_pI_ne {G : Gv} {sh : Sh} {L : List Nat} {S : MS} {o j k : Nat} {v : Int32} (h : k ≠ o) : mcell G sh L (pI S o j v) k = mcell G sh L S k := by
  unfold mcell mfs; simp only [pI, up2_o h]
theorem mcell_pR_ne {G : Gv} {sh : Sh} {L : List Nat} {S : MS} {o j k v : Nat} (h : k ≠ o) : mcell G sh L (pR S o j v) k = mcell G sh L S k := by
  unfold mcell mfs; simp only [pR, up2_o h]
theorem mcell_pJ_ne {G : Gv} {sh : Sh} {L : List Nat} {S : MS} {o j k : Nat} {v : Int64} (h : k ≠ o) : mcell G sh L (pJ S o j v) k = mcell G sh L S k := by
  unfold mcell mfs; simp only [pJ, up2_o h]
theorem mfs_len (c : Nat) (L : List Nat) (S : MS) (k : Nat) : (mfs c L S k).length = (kfs c).length := by simp [mfs]
theorem mfs_get {c : Nat} {L : List Nat} {S : MS} {k j t : Nat} (h : (kfs c)[j]? = some t) : (mfs c L S k)[j]? = some (if t = 99 then Value.int (S.1 k j) else rv L (S.2.1 k j)) := by
  simp [mfs, List.getElem?_mapIdx, h]
theorem mfs_pI {c : Nat} {L : List Nat} {S : MS} {k j : Nat} {v : Int32} (h : (kfs c)[j]? = some 99) : mfs c L (pI S k j v) k = (mfs c L S k).set j (.int v) := by
  apply List.ext_getElem?
  intro i
  by_cases hi : i = j
  · subst hi
    have hl : i < (mfs c L S k).length := by rw [mfs_len]; exact (List.getElem?_eq_some_iff.mp h).1
    rw [List.getElem?_set_self hl, mfs_get h]
    simp [pI, up2]
  · rw [List.getElem?_set_ne (Ne.symm hi)]
    simp only [mfs, List.getElem?_mapIdx]
    cases (kfs c)[i]? with
    | none => rfl
    | some t => simp [pI, up2, hi]
theorem mfs_pR {c : Nat} {L : List Nat} {S : MS} {k j v t : Nat} (h : (kfs c)[j]? = some t) (ht : t ≠ 99) : mfs c L (pR S k j v) k = (mfs c L S k).set j (rv L v) := by
  apply List.ext_getElem?
  intro i
  by_cases hi : i = j
  · subst hi
    have hl : i < (mfs c L S k).length := by rw [mfs_len]; exact (List.getElem?_eq_some_iff.mp h).1
    rw [List.getElem?_set_self hl, mfs_get h]
    simp [pR, up2, ht]
  · rw [List.getElem?_set_ne (Ne.symm hi)]
    simp only [mfs, List.getElem?_mapIdx]
    cases (kfs c)[i]? with
    | none => rfl
    | some t => simp [pR, up2, hi]
theorem mWT_pR {b : Bool} {sh : Sh} {S : MS} {o j v : Nat} (h : mWT b sh S) (hv : v < sh.1 ∧ sh.2.1 v = mrk sh o j) : mWT b sh (pR S o j v) := by
  refine ⟨h.1, ?_⟩
  intro a b ha hb hz
  by_cases hab : a = o ∧ b = j
  · obtain ⟨rfl, rfl⟩ := hab
    simpa [pR, up2] using hv
  · have := h.2 a b ha hb (by simpa [pR, up2, hab] using hz)
    simpa [pR, up2, hab] using this
theorem mrk_obj {sh : Sh} {o ci j t : Nat} (h : sh.2.1 o = ci) (hc : ci < 12) (hj : (kfs ci)[j]? = some t) : mrk sh o j = t := by
  unfold mrk; rw [h, if_pos hc]; simp [List.getD, hj]
theorem mA_free {b : Bool} {sh : Sh} {L : List Nat} {G : Gv} {S : MS} {A : Nat → Prop} {s : State} {H : Heap} {locs : List Loc} (hW : mWb b G sh L S A s H locs) : ∀ q, mA sh L H.size q → A q := by
  obtain ⟨-, -, hD, hS, -, hA, -, -⟩ := hW
  intro q h
  rcases h with ⟨k, hk, rfl⟩ | h
  · exact hD.2 k _ (mws_get hk)
  · exact hA q (Nat.le_trans hS.1 h)
