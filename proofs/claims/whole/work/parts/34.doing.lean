/-! ===== doing: it returns or throws ===== -/
def isX : Cond → Bool
  | .castable _ _ => true
  | .declares _ => true
  | _ => false
def xtbl : List Cond := lw_tbl.filter isX
def mX (U : State) : Prop := ∀ w ∈ xtbl, va_Nw w U
theorem mX.warm {s U : State} (h : mX s) (hW : s.WarmedH U.vm) : mX U := by
  intro w hw
  have h1 := h w hw
  have h2 : isX w = true := (List.mem_filter.mp hw).2
  cases w <;> first | exact va_Nw.warmC hW h1 | exact va_Nw.warmD hW h1 | (simp [isX] at h2; done)
theorem mX.same {u U : State} (h : mX u) (he : u.vm = U.vm) : mX U := by
  intro w hw
  have h1 := h w hw
  have h2 : isX w = true := (List.mem_filter.mp hw).2
  cases w <;> first | exact va_Nw.same rfl he h1 | (simp [isX] at h2; done)
/-- what a throw needs of the start -/
def mEx (A : Nat → Prop) (U : State) (H : Heap) : Prop := mX U ∧ vx_Zq Bundle.tN "UNASSIGNED_STACK" Bundle.steD A U H ∧ vx_Zq Bundle.tN "SUPPRESSED_SENTINEL" Bundle.listD A U H ∧ (∃ a, vk_R "ShadowTwin" 185 "no such doing" a U) ∧ ∃ a, vk_R "ShadowTwin" 192 "no such what" a U
theorem mEx.kept {A : Nat → Prop} {U : State} {H H1 : Heap} (h : mEx A U H) (hq : ∀ a : Nat, a < H.size → ¬ A a → H1[a]? = H[a]?) : mEx A U H1 := ⟨h.1, h.2.1.kept hq, h.2.2.1.kept hq, h.2.2.2⟩
theorem mEx.narrow {A B : Nat → Prop} {U : State} {H : Heap} (h : mEx A U H) (hAB : ∀ q, B q → A q) : mEx B U H := ⟨h.1, h.2.1.narrow hAB, h.2.2.1.narrow hAB, h.2.2.2⟩
theorem mEx.warm {A : Nat → Prop} {s U : State} {H : Heap} (h : mEx A s H) (hW : s.WarmedH U.vm) : mEx A U H := ⟨h.1.warm hW, h.2.1.moved hW.alike, h.2.2.1.moved hW.alike, h.2.2.2.1.imp (fun _ h => h.warm hW), h.2.2.2.2.imp (fun _ h => h.warm hW)⟩
theorem mEx.same {A : Nat → Prop} {u U : State} {H : Heap} (h : mEx A u H) (he : u.vm = U.vm) (ha : u.vm.Alike U.vm) : mEx A U H := ⟨h.1.same he, h.2.1.moved ha, h.2.2.1.moved ha, h.2.2.2.1.imp (fun _ h => h.same he.symm), h.2.2.2.2.imp (fun _ h => h.same he.symm)⟩
abbrev eIO : String := "java/lang/IndexOutOfBoundsException"
abbrev eNS : String := "java/util/NoSuchElementException"
abbrev eUp : List String := ["java/lang/RuntimeException", "java/lang/Exception"]
theorem at_hat {args : Array Value} {s : State} {Lw : List Cond} (h : ∀ w ∈ Lw, w ∈ lw_tbl ∧ (goodWord w || isX w) = true) (hg : ∀ w ∈ gtbl, w.before args s = true) (hx : mX s) : ∀ w ∈ Lw, w.before args s = true := by
  intro w hw
  obtain ⟨h1, h2⟩ := h w hw
  cases hgw : goodWord w with
  | true => exact hg w (List.mem_filter.mpr ⟨h1, hgw⟩)
  | false =>
    rw [hgw, Bool.false_or] at h2
    have h3 := hx w (List.mem_filter.mpr ⟨h1, h2⟩)
    cases w <;> first | exact va_Nw.use rfl h3 | (simp [isX] at h2; done)
/-- doing, as the memory has it: 0 and the answer, 1 or 2 for what is thrown -/
def fX10_doing (a0 : Nat) (a1 a2 : Int32) (S : MS) : Option (Int32 × Int32) :=
  (fX7_has (gR S (gR S a0 1) 5) a1 S).bind fun h => if h = (0 : Int32) then some (1, 0) else (if a2 < (0 : Int32) then some (2, 0) else (if a2 ≤ (4 : Int32) then
    (if a2 = (4 : Int32) then some (0, ((gI S (gR S a0 9) 8) >>> (a1 &&& 31)) &&& (1 : Int32)) else (fX7_get (gR S (gR S a0 1) 5) a1 ((1 : Int32) + a2) S).bind fun r => some (0, r)) else some (2, 0)))
def dPc (G : Gv) (L : List Nat) (S : MS) (av : List Value) (sz : Nat) : Array Value → State → Prop := va_Pc av (fun U => U.heap.size = sz ∧ mHb true G shX L S U ∧ mEx (mA shX L sz) U U.heap)
def dX (G : Gv) (L : List Nat) (S : MS) (q : Int32) (sz : Nat) : String → State → State → Prop := vx_X (fun _ : Unit => True) (fun E _ t => ((E = eIO ∧ q = 1) ∨ (E = eNS ∧ q = 2)) ∧ mHo true G shX L S t) (mA shX L sz)
def dQ (G : Gv) (L : List Nat) (S : MS) (q : Int32 × Int32) (sz : Nat) : Array Value → State → Outcome → State → Prop := va_Qi (fun r (_ : Unit) => q.1 = 0 ∧ r = q.2) (fun _ t => mHo true G shX L S t) (mA shX L sz)
theorem mA_size {sh : Sh} {L : List Nat} {a b : Nat} (h : a ≤ b) : ∀ q, mA sh L b q → mA sh L a q := by
  intro q hq
  rcases hq with h1 | h1
  · exact Or.inl h1
  · exact Or.inr (by omega)
