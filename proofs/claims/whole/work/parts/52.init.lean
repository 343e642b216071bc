/-! ===== the start, evaluated ===== -/
def SX0 : MS := (fX10_init 1 0 (wip S00 0)).getD S00
def SM0 : MS := (fX11_init 1 0 (wip S00 0)).getD S00
theorem some_getD {α : Type} {x : Option α} {d : α} (h : x.isSome = true) : x = some (x.getD d) := by
  cases x with
  | none => simp at h
  | some a => rfl
set_option maxRecDepth 100000 in
theorem sx0 : fX10_init 1 0 (wip S00 0) = some SX0 := some_getD (by decide +kernel)
set_option maxRecDepth 100000 in
theorem sm0 : fX11_init 1 0 (wip S00 0) = some SM0 := some_getD (by decide +kernel)
set_option maxRecDepth 100000 in
theorem sx0_refs : ∀ q ∈ rXl, gR SX0 q.1 q.2.1 = q.2.2 := by decide +kernel
set_option maxRecDepth 100000 in
theorem sx0_told : gR SX0 0 1 = 2 ∧ gR SX0 0 2 = 25 ∧ gR SX0 52 1 = 2 := by decide +kernel
theorem sx0_RX : RX 2 SX0 := ⟨Or.inl rfl, sx0_told.1, sx0_told.2.1, sx0_told.2.2, sx0_refs⟩
set_option maxRecDepth 100000 in
theorem sm0_MR : MR SM0 := by unfold MR; decide +kernel
