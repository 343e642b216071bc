/-! ===== the law's start: the classes, the array classes, what never changes ===== -/
theorem arr_ex {s : State} {args : Array Value} {t : FieldType} (h : (Cond.arrayClass t).before args s = true) (hne : ∀ C, t ≠ .object C) : ∃ cA, ArrOfT s cA t ∧ va_RA s cA t := by
  obtain ⟨cA, kA, comp, h1, h2, h3⟩ := Cond.arrayClass_spec h
  exact ⟨cA, fun n z => ⟨fun k h => (by cases h), kA, h2, comp, h3⟩, by cases t <;> first | exact h1 | exact absurd rfl (hne _)⟩
theorem arr_exO {s : State} {args : Array Value} {C : String} (h : (Cond.arrayOver (.object C)).before args s = true) : ∃ cA, ArrOfT s cA (.object C) ∧ va_RA s cA (.object C) := by
  obtain ⟨comp, cA, kA, h1, -, h2, h3, h4⟩ := Cond.arrayOver_spec h
  exact ⟨cA, fun n z => ⟨fun k h => (by cases h), kA, h2, comp, h3⟩, kA, comp, h2, h3, h1, h4⟩
theorem cls_ex {s : State} {args : Array Value} (hts : ∀ w ∈ gtbl, w.before args s = true) (hti : ∀ w ∈ lw_tbl, w.before args s = true) : ∀ k : Nat, ∃ (cC : ClassId) (iS : Nat → Nat), ∀ q : vw_C, vwCl[k]? = some q → u_Kn s q.1 q.2.1 q.2.2 cC iS := by
  intro k
  match k with
  | 0 =>
    obtain ⟨cC, iS, h⟩ := u_known (C := RX0) (T := TX0) (N := 2) (n := 2) hts inX0 (hti (.instantiable RX0 2) (in_2 (List.mem_of_getElem? (i := 38) rfl)))
    exact ⟨cC, iS, fun q hq => by cases hq; exact h⟩
  | 1 =>
    obtain ⟨cC, iS, h⟩ := u_known (C := RX1) (T := TX1) (N := 3) (n := 3) hts inX1 (hti (.instantiable RX1 3) (in_1 (List.mem_of_getElem? (i := 62) rfl)))
    exact ⟨cC, iS, fun q hq => by cases hq; exact h⟩
  | 2 =>
    obtain ⟨cC, iS, h⟩ := u_known (C := RX2) (T := TX2) (N := 2) (n := 2) hts inX2 (hti (.instantiable RX2 2) (in_2 (List.mem_of_getElem? (i := 192) rfl)))
    exact ⟨cC, iS, fun q hq => by cases hq; exact h⟩
  | 3 =>
    obtain ⟨cC, iS, h⟩ := u_known (C := RX3) (T := TX3) (N := 3) (n := 3) hts inX3 (hti (.instantiable RX3 3) (in_2 (List.mem_of_getElem? (i := 176) rfl)))
    exact ⟨cC, iS, fun q hq => by cases hq; exact h⟩
  | 4 =>
    obtain ⟨cC, iS, h⟩ := u_known (C := RX4) (T := TX4) (N := 6) (n := 6) hts inX4 (hti (.instantiable RX4 6) (in_2 (List.mem_of_getElem? (i := 53) rfl)))
    exact ⟨cC, iS, fun q hq => by cases hq; exact h⟩
  | 5 =>
    obtain ⟨cC, iS, h⟩ := u_known (C := RX5) (T := TX5) (N := 19) (n := 19) hts inX5 (hti (.instantiable RX5 19) (in_1 (List.mem_of_getElem? (i := 162) rfl)))
    exact ⟨cC, iS, fun q hq => by cases hq; exact h⟩
  | 6 =>
    obtain ⟨cC, iS, h⟩ := u_known (C := RX6) (T := TX6) (N := 3) (n := 3) hts inX6 (hti (.instantiable RX6 3) (in_2 (List.mem_of_getElem? (i := 206) rfl)))
    exact ⟨cC, iS, fun q hq => by cases hq; exact h⟩
  | 7 =>
    obtain ⟨cC, iS, h⟩ := u_known (C := RX7) (T := TX7) (N := 4) (n := 4) hts inX7 (hti (.instantiable RX7 4) (in_1 (List.mem_of_getElem? (i := 39) rfl)))
    exact ⟨cC, iS, fun q hq => by cases hq; exact h⟩
  | 8 =>
    obtain ⟨cC, iS, h⟩ := u_known (C := RX8) (T := TX8) (N := 16) (n := 16) hts inX8 (hti (.instantiable RX8 16) (in_1 (List.mem_of_getElem? (i := 33) rfl)))
    exact ⟨cC, iS, fun q hq => by cases hq; exact h⟩
  | 9 =>
    obtain ⟨cC, iS, h⟩ := u_known (C := RX9) (T := TX9) (N := 16) (n := 16) hts inX9 (hti (.instantiable RX9 16) (in_2 (List.mem_of_getElem? (i := 60) rfl)))
    exact ⟨cC, iS, fun q hq => by cases hq; exact h⟩
  | 10 =>
    obtain ⟨cC, iS, h⟩ := u_known (C := RX10) (T := TX10) (N := 16) (n := 16) hts inX10 (hti (.instantiable RX10 16) (in_1 (List.mem_of_getElem? (i := 25) rfl)))
    exact ⟨cC, iS, fun q hq => by cases hq; exact h⟩
  | 11 =>
    obtain ⟨cC, iS, h⟩ := u_known (C := RX11) (T := TX11) (N := 74) (n := 74) hts inX11 (hti (.instantiable RX11 74) (in_6 (List.mem_of_getElem? (i := 38) rfl)))
    exact ⟨cC, iS, fun q hq => by cases hq; exact h⟩
  | k + 12 => exact ⟨0, fun _ => 0, fun q h => by simp [vwCl] at h⟩
set_option maxRecDepth 100000 in
theorem lng_el : ∀ j, j < 113 → Cond.eq (.elem (.field (.string "ShadowTwin$Reader" 38) "java/lang/String" "value" "[B") (.int (Int32.ofNat j))) (.int (([lngB].getD 0 []).getD j 0)) ∈ flatC (Jvm.Cond.and given_1 narrow_1) := by decide +kernel
set_option maxRecDepth 100000 in
theorem law_env {p : Program} {s : State} {m : MethodId} {meth : Method} {c : Code} {b L : Nat} {xs : Nat → Int32} (C0 : lw_At p s m meth c b L xs) : ∃ G : Gv, va_K G.1 vwCl (mtys G) s ∧ mN s ∧ mE G (fun q => s.heap.size ≤ q) s s.heap ∧ mEx (fun q => s.heap.size ≤ q) s s.heap := by
  obtain ⟨hx, hb, hr, hml, hown, hts, hX, hbl, hlocks, hgv⟩ := C0
  have hs := flat_of_before _ hgv
  have hg : ∀ w ∈ gtbl, w.before #[Value.ref b] s = true := fun w h => hts w (List.mem_filter.mp h).1
  obtain ⟨dC, hdC⟩ := Classical.axiomOfChoice (cls_ex hg hts)
  obtain ⟨dI, hdI⟩ := Classical.axiomOfChoice hdC
  obtain ⟨aB, hB⟩ := arr_ex (hts (.arrayClass .byte) (in_1 (List.mem_of_getElem? (i := 57) rfl))) (fun _ h => by cases h)
  obtain ⟨aI, hI⟩ := arr_ex (hts (.arrayClass .int) (in_1 (List.mem_of_getElem? (i := 59) rfl))) (fun _ h => by cases h)
  obtain ⟨aJ, hJ⟩ := arr_ex (hts (.arrayClass .long) (in_1 (List.mem_of_getElem? (i := 77) rfl))) (fun _ h => by cases h)
  obtain ⟨aZ, hZ⟩ := arr_ex (hts (.arrayClass .boolean) (in_1 (List.mem_of_getElem? (i := 58) rfl))) (fun _ h => by cases h)
  have oL : (Cond.arrayOver (.object "ShadowTwin$Law")).before #[Value.ref b] s = true := hts _ (in_1 (List.mem_of_getElem? (i := 61) rfl))
  have oW : (Cond.arrayOver (.object "ShadowTwin$World")).before #[Value.ref b] s = true := hts _ (in_2 (List.mem_of_getElem? (i := 59) rfl))
  obtain ⟨aL, hL⟩ := arr_exO oL
  obtain ⟨aW, hW⟩ := arr_exO oW
  have hA : ∀ a : Nat, a < s.heap.size → ¬ (fun q => s.heap.size ≤ q) a := fun a h => Nat.not_le.mpr h
  obtain ⟨adK, adV, hS, hev⟩ := vk_Sof (args := #[Value.ref b]) (s := s) (N := 1) (tm := fun _ => .string "ShadowTwin$Reader" 38) (len := [lngB.length]) (byt := [lngB]) (A := fun q => s.heap.size ≤ q) (fun i hi => by
      have : i = 0 := by omega
      subst this; decide) (fun _ _ => hs _ (by decide +kernel)) (fun _ _ => hs _ (by decide +kernel)) (fun _ _ => hs _ (by decide +kernel)) (fun i hi => by
      have : i = 0 := by omega
      subst this; exact hs (Cond.eq (.length (.field (.string "ShadowTwin$Reader" 38) "java/lang/String" "value" "[B")) (.int 113)) (by decide +kernel)) (fun i hi j hj => by
      have : i = 0 := by omega
      subst this
      exact hs _ (lng_el j hj)) (fun i j hi hj hij => absurd (by omega) hij) hA
  have hev0 := hev 0 (by decide)
  have hevM := va_eqR (hs (Cond.eq (.string "ShadowTwin$Reader" 38) (.string "ShadowTwinModel" 206)) (by decide +kernel)) hev0
  have eA : ∀ {o : String} {k : Nat} {a : Nat}, (Term.string o k).eval #[Value.ref b] s none [] s = some (.ref a) → (Term.string o k).eval #[] s none [] s = some (.ref a) := fun h => by
    rw [Term.string_eval_of_vm (args := #[]) (rfl : s.vm = s.vm)] at h ⊢
    exact h
  refine ⟨((dC, dI), (fun k => if k = 12 then aB else if k = 13 then aI else if k = 14 then aJ else if k = 15 then aZ else if k = 16 then aL else aW), adK 0, adV 0), ⟨fun k q h => hdI k q h, ?_⟩, ?_, ⟨?_, ?_, ?_, ?_, ?_, oL, oW⟩, ?_, ?_, ?_, ?_, ?_⟩
  · intro k q hq
    match k, hq with
    | 0, hq => cases hq; exact hB
    | 1, hq => cases hq; exact hI
    | 2, hq => cases hq; exact hJ
    | 3, hq => cases hq; exact hZ
    | 4, hq => cases hq; exact hL
    | 5, hq => cases hq; exact hW
    | k + 6, hq => simp [mtys] at hq
  · intro w hw
    have h1 := hts w (List.mem_filter.mp hw).1
    have h2 : isNest w = true := (List.mem_filter.mp hw).2
    cases w <;> first | exact va_Nw.of rfl h1 | (simp [isNest] at h2; done)
  · exact ⟨fun i hi => by
      have : i = 0 := by omega
      subst this; exact hS.1 0 (by decide), fun i j hi hj _ => by omega⟩
  · exact va_Zof (hts (.laysStatic "java/lang/String" "COMPACT_STRINGS" "Z") (in_1 (List.mem_of_getElem? (i := 177) rfl))) (hts (.initialized "java/lang/String") (in_1 (List.mem_of_getElem? (i := 6) rfl))) (va_eqi (hs _ (by decide +kernel))) hA
  · exact va_Zqof (hts (.laysStatic "jdk/internal/util/Preconditions" "SIOOBE_FORMATTER" "Ljava/util/function/BiFunction;") (in_1 (List.mem_of_getElem? (i := 193) rfl))) (hts (.initialized "jdk/internal/util/Preconditions") (in_1 (List.mem_of_getElem? (i := 8) rfl))) (hs _ (by decide +kernel)) hA
  · exact ⟨hts (.stringRef "ShadowTwinModel" 206 lngT) (in_7 (List.mem_of_getElem? (i := 65) rfl)), eA hevM⟩
  · exact ⟨hts (.stringRef "ShadowTwin$Reader" 38 lngT) (in_1 (List.mem_of_getElem? (i := 167) rfl)), eA hev0⟩
  · intro w hw
    have h1 := hts w (List.mem_filter.mp hw).1
    have h2 : isX w = true := (List.mem_filter.mp hw).2
    cases w <;> first | exact va_Nw.of rfl h1 | (simp [isX] at h2; done)
  · exact vx_Zqof (hts (.laysStatic "java/lang/Throwable" "UNASSIGNED_STACK" "[Ljava/lang/StackTraceElement;") (in_5 (List.mem_of_getElem? (i := 222) rfl))) (hts (.initialized "java/lang/Throwable") (in_1 (List.mem_of_getElem? (i := 19) rfl))) (hs _ (by decide +kernel)) hA
  · exact vx_Zqof (hts (.laysStatic "java/lang/Throwable" "SUPPRESSED_SENTINEL" "Ljava/util/List;") (in_5 (List.mem_of_getElem? (i := 224) rfl))) (hts (.initialized "java/lang/Throwable") (in_1 (List.mem_of_getElem? (i := 19) rfl))) (hs _ (by decide +kernel)) hA
  · obtain ⟨a, -, -, -, ha, -⟩ := Cond.exactly_spec (hs (Cond.exactly (.string "ShadowTwin" 185) "java/lang/String") (by decide +kernel))
    exact ⟨a, hts (.stringRef "ShadowTwin" 185 "no such doing") (in_5 (List.mem_of_getElem? (i := 235) rfl)), eA ha⟩
  · obtain ⟨a, -, -, -, ha, -⟩ := Cond.exactly_spec (hs (Cond.exactly (.string "ShadowTwin" 192) "java/lang/String") (by decide +kernel))
    exact ⟨a, hts (.stringRef "ShadowTwin" 192 "no such what") (in_6 (List.mem_of_getElem? (i := 30) rfl)), eA ha⟩
