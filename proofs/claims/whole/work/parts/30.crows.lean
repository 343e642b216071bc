/-! ===== constructors: the cells come one behind another, at the addresses B, B + 1 .. ===== -/
def shn (sh : Sh) (n : Nat) : Sh := (n, sh.2.1, sh.2.2)
def Lq (B N : Nat) : List Nat := (List.range N).map (fun k => B + k)
theorem ad_Lq {B N k : Nat} (h : k < N) : ad (Lq B N) k = B + k := by
  simp [ad, Lq, List.getD, h]
/-- a cell as it is born -/
def wip (S : MS) (n : Nat) : MS := (fun o j => if o = n then 0 else S.1 o j, fun o j => if o = n then nul else S.2.1 o j, fun o j => if o = n then 0 else S.2.2 o j)
abbrev rmC (d mc ms : Nat) : Room := { frames := d, cells := mc, slots := ms, locals := 64 * d }
abbrev mcA (sh : Sh) (B N n : Nat) : Nat → Prop := mA (shn sh n) (Lq B N) (B + n)
def mQc (G : Gv) (sh : Sh) (B N n' : Nat) (S' : MS) (A : Nat → Prop) : Array Value → State → Outcome → State → Prop := fun _ st oc t => (oc = .returned none ∧ t.heap.size = B + n' ∧ mHo false G (shn sh n') (Lq B N) S' t) ∧ va_F A st t
/-- a constructor's contract: n cells are there, n' behind it -/
def MtC (l : Launch) (y : MethodName) (cc : ByteArray) (maxL d mc ms : Nat) (G : Gv) (sh : Sh) (B N n n' : Nat) (S : MS) (av : List Value) (S' : MS) : Prop :=
  Met l y (.code y cc maxL none :: gtbl) (rmC d mc ms) (va_Pc av (fun U => U.heap.size = B + n ∧ mHb false G (shn sh n) (Lq B N) S U)) (mQc G sh B N n' S' (mcA sh B N n)) mc ms (mcA sh B N n)
theorem mcell_shn {G : Gv} {sh : Sh} {n n' : Nat} {L : List Nat} {S : MS} {k : Nat} : mcell G (shn sh n) L S k = mcell G (shn sh n') L S k := rfl
theorem mcell_wip {G : Gv} {sh : Sh} {L : List Nat} {S : MS} {n k : Nat} (h : k ≠ n) : mcell G sh L (wip S n) k = mcell G sh L S k := by
  unfold mcell mfs; simp only [wip, if_neg h]
theorem mws_shn_succ {G : Gv} {sh : Sh} {n : Nat} {L : List Nat} {S : MS} : mws G (shn sh (n + 1)) L (wip S n) = mws G (shn sh n) L S ++ [(ad L n, mcell G sh L (wip S n) n)] := by
  unfold mws
  show (List.range (n + 1)).map _ = (List.range n).map _ ++ _
  rw [List.range_succ, List.map_append]
  congr 1
  apply List.map_congr_left
  intro k hk
  have hk : k < n := List.mem_range.mp hk
  rw [mcell_wip (by omega)]
  rfl
theorem mWT_wip {sh : Sh} {n : Nat} {S : MS} (h : mWT false (shn sh n) S) (hn : n < 1000) : mWT false (shn sh (n + 1)) (wip S n) := by
  refine ⟨by show n + 1 ≤ 1000; omega, ?_⟩
  intro o j ho hr hz
  by_cases hon : o = n
  · subst hon
    exact absurd (by simp [wip]) (hz rfl)
  · have ho' : o < (shn sh n).1 := by have : o < n + 1 := ho; show o < n; omega
    have e : (wip S n).2.1 o j = S.2.1 o j := by simp [wip, hon]
    rw [e] at hz ⊢
    have h2 := h.2 o j ho' hr hz
    exact ⟨by have h3 : S.2.1 o j < n := h2.1; show S.2.1 o j < n + 1; omega, h2.2⟩
section MC
variable {p : Program} {l : Launch} {e : Env} {R : Room} {s : State} {m : MethodId} {args : Array Value} {below : List Frame} {meth : Method} {c : Code} {H : Heap} {locs : List Loc} {cells slots : Nat} {Q : State → Prop}
  {cc : ByteArray} {own : String} {nL : Nat} {ret : Option FieldType} {b : Bool} {G : Gv} {sh : Sh} {B N n : Nat} {S : MS} {A : Nat → Prop} {pc : Nat} {ls : Array Slot} {rest : List Value}
/-- the heap has grown by no more than the cells that were counted -/
theorem W_size {g : JFrame} (kk : H.size ≤ s.heap.size + cells → W p l e R s m args below meth c H locs cells slots Q g) : W p l e R s m args below meth c H locs cells slots Q g := by
  intro T hT X
  have h : T.heap.size ≤ s.heap.size + cells := X.same.2.2.1
  exact kk (by rw [← hT]; exact h) T hT X
theorem mV_size (hW : mWb false G (shn sh n) (Lq B N) S A s H locs) (hn0 : 0 < n) (hn : n ≤ N) (hs : s.heap.size + cells = B + n) (h : H.size ≤ s.heap.size + cells) : H.size = B + n := by
  have h1 := (hW.2.1 (n - 1) _ (mws_get (by show n - 1 < n; omega))).lt
  have h2 : ad (Lq B N) (n - 1) < H.size := h1
  rw [ad_Lq (by omega)] at h2
  omega
/-- a new cell at the heap's end -/
theorem mV_push {H1 : Heap} (hW : mWb false G (shn sh n) (Lq B N) S A s H locs) (hH : H.size = B + n) (hN1 : N ≤ 1000) (hn : n < N) (e1 : va_at G.1 vwCl (H.size, mcell G sh (Lq B N) (wip S n) n) H1) (z1 : H1.size = H.size + 1) (o1 : ∀ q, q < H.size → H1[q]? = H[q]?) : mWb false G (shn sh (n + 1)) (Lq B N) (wip S n) A s H1 locs := by
  obtain ⟨hK, hP, hD, hS, hT, hA, hN, hE⟩ := hW
  have had : ad (Lq B N) n = H.size := by rw [ad_Lq hn, hH]
  have hk : ∀ (k : Nat) (x : Nat × va_E), (mws G (shn sh n) (Lq B N) S)[k]? = some x → H1[x.1]? = H[x.1]? := fun k x hx => o1 x.1 ((hP k x hx).lt)
  refine ⟨hK, ?_, ?_, ⟨Nat.le_trans hS.1 (by omega), fun x h1 h2 => (o1 x (Nat.lt_of_lt_of_le h1 hS.1)).trans (hS.2.1 x h1 h2), hS.2.2⟩, mWT_wip hT (by omega), hA, hN, hE⟩
  · rw [mws_shn_succ, had]
    refine (hP.kept hk).app (fun k x hx => ?_)
    have hz : k < 1 := (List.getElem?_eq_some_iff.mp hx).1
    rw [show k = 0 by omega] at hx
    cases hx
    exact e1
  · rw [mws_shn_succ, had]
    exact hD.push hP rfl (hA _ hS.1)
/-- what 'new' of a class needs -/
def mNw (own : String) (idx ci : Nat) : Prop := ci < 12 ∧ ∃ (cn : String) (T : u_T) (N0 : Nat) (tf : Nat → FieldType), vwCl[ci]? = some (cn, T, N0) ∧ (∀ w ∈ u_ws cn T N0, w ∈ gtbl) ∧ (∀ k, k < N0 → parseFieldDescriptor (T k).2.2.1 = some (tf k)) ∧ Cond.classLink own idx cn ∈ gtbl ∧ Cond.instantiable cn N0 ∈ gtbl ∧ Cond.initialized cn ∈ gtbl ∧ N0 ≤ 100 ∧ ∀ j, j < N0 → defaultValue (tf j) = vp_V ((kfs ci).map (fun t => if t = 99 then Value.int 0 else Value.null)) j
theorem mfs_wip {ci : Nat} {L : List Nat} {S : MS} {n : Nat} : mfs ci L (wip S n) n = (kfs ci).map (fun t => if t = 99 then Value.int 0 else Value.null) := by
  apply List.ext_getElem?
  intro i
  simp only [mfs, List.getElem?_mapIdx, List.getElem?_map]
  cases (kfs ci)[i]? with
  | none => rfl
  | some t => simp [wip, rv]
theorem mc_new {ci idx : Nat} (C : mC p s m args meth c cc own nL ret) (hW : mWb false G (shn sh n) (Lq B N) S A s H locs) (hs : s.heap.size + cells = B + n) (hN1 : N ≤ 1000) (hn0 : 0 < n) (hn : n < N) (hk : sh.2.1 n = ci) (F : mNw own idx ci) (hcells : cells + 1 ≤ R.cells) (hslots : slots + 100 ≤ R.slots) (hd : decode cc pc = .ok (.new idx, 3))
    (kk : ∀ (H1 : Heap), mWb false G (shn sh (n + 1)) (Lq B N) (wip S n) A s H1 locs → W p l e R s m args below meth c H1 locs (cells + 1) (slots + 100) Q (F0 m (pc + 3) ls (.ref (ad (Lq B N) n) :: rest))) : W p l e R s m args below meth c H locs cells slots Q (F0 m pc ls rest) := by
  obtain ⟨hci, cn, T, N0, tf, hc, hin, hty, hcl, hins, hini, h100, hfs⟩ := F
  have hts := C.2.2.2.2.1
  have hKn := hW.1.1 ci _ hc
  refine W_size fun hle => ?_
  have hH := mV_size hW hn0 (by omega) hs hle
  refine W.newcK C.1 C.2.1 C.2.2.2.1 (hts _ hcl) (hts _ hins) (hts _ hini) rfl hd hcells (by omega) hKn.2.1 rfl fun H1 kC hkC e1 z1 o1 => ?_
  refine W.widen (k := cells + 1) (n := slots + 100) (Nat.le_refl _) (by omega) ?_
  have had : ad (Lq B N) n = H.size := by rw [ad_Lq hn, hH]
  have h2 := kk H1 (mV_push hW hH hN1 hn (by
    rw [mcell_obj hk hci, mfs_wip]
    exact ⟨_, hc, (u_born tf hts hin hKn hkC e1 hty).to hfs⟩) z1 o1)
  rw [had] at h2
  exact h2
theorem va_cls {k : Nat} {t : FieldType} {cA : ClassId} (hW : mWb false G (shn sh n) (Lq B N) S A s H locs) (hk : (mtys G)[k]? = some (cA, t)) {cB : ClassId} (hne : ∀ C, t ≠ .object C) (hf : s.vm.findClass ("[" ++ t.toString) = some cB) : cB = cA := by
  have h := (hW.1.2 k _ hk).2
  have h2 : s.vm.findClass ("[" ++ t.toString) = some cA := by
    cases t <;> first | exact h | exact absurd rfl (hne _)
  exact Option.some.inj (hf.symm.trans h2)
theorem mc_newarr {kd k0 : Nat} {i : Int32} {atype : ArrayType} {t : FieldType} {a0 : vp_A} (C : mC p s m args meth c cc own nL ret) (hW : mWb false G (shn sh n) (Lq B N) S A s H locs) (hs : s.heap.size + cells = B + n) (hN1 : N ≤ 1000) (hn0 : 0 < n) (hn : n < N) (hk : sh.2.1 n = kd) (ha0 : mcell G sh (Lq B N) (wip S n) n = .inl (G.2.1 kd, a0)) (hty : newarray.typeOf atype = t) (hk0 : (mtys G)[k0]? = some (G.2.1 kd, t)) (hne : ∀ C, t ≠ .object C)
    (hcel : ∀ cA, vp_cell cA a0 = arrV cA (sh.2.2 n) (fun _ => defaultValue t)) (harr : Cond.arrayClass t ∈ gtbl) (hi0 : ¬ i < 0) (hi : i.toNatClampNeg = sh.2.2 n) (hle : sh.2.2 n ≤ 1000) (hcb : componentBytes t ≤ 8) (hcells : cells + 1 ≤ R.cells) (hslots : slots + 1000 ≤ R.slots) (hd : decode cc pc = .ok (.newarray atype, 2))
    (kk : ∀ (H1 : Heap), mWb false G (shn sh (n + 1)) (Lq B N) (wip S n) A s H1 locs → W p l e R s m args below meth c H1 locs (cells + 1) (slots + 1000) Q (F0 m (pc + 2) ls (.ref (ad (Lq B N) n) :: rest))) : W p l e R s m args below meth c H locs cells slots Q (F0 m pc ls (.int i :: rest)) := by
  subst hty
  have hts := C.2.2.2.2.1
  refine W_size fun hle9 => ?_
  have hH := mV_size hW hn0 (by omega) hs hle9
  have had : ad (Lq B N) n = H.size := by rw [ad_Lq hn, hH]
  refine va_newaK C.1 C.2.1 (hts _ harr) rfl hd rfl hi0 hi (by
    have := Nat.mul_le_mul hle hcb
    omega) hcells (by omega) rfl fun H1 cA e1 z1 o1 hAr hNm => ?_
  refine W.widen (k := cells + 1) (n := slots + 1000) (Nat.le_refl _) (by omega) ?_
  have hcA := va_cls hW hk0 hne hNm
  subst hcA
  have h2 := kk H1 (mV_push hW hH hN1 hn (by
    rw [ha0]
    show H1[H.size]? = some (vp_cell _ _)
    rw [hcel]; exact e1) z1 o1)
  rw [had] at h2
  exact h2
theorem mc_newref {kd k0 idx : Nat} {i : Int32} {cn : String} (C : mC p s m args meth c cc own nL ret) (hW : mWb false G (shn sh n) (Lq B N) S A s H locs) (hs : s.heap.size + cells = B + n) (hN1 : N ≤ 1000) (hn0 : 0 < n) (hn : n < N) (hk : sh.2.1 n = kd) (hkd : kd = 16 ∨ kd = 17) (hk0 : (mtys G)[k0]? = some (G.2.1 kd, .object cn)) (hAO : va_AO cn s)
    (hclk : Cond.classLink own idx cn ∈ gtbl) (hi0 : ¬ i < 0) (hi : i.toNatClampNeg = sh.2.2 n) (hle : sh.2.2 n ≤ 1000) (hcells : cells + 1 ≤ R.cells) (hslots : slots + 1000 ≤ R.slots) (hd : decode cc pc = .ok (.anewarray idx, 3))
    (kk : ∀ (H1 : Heap), mWb false G (shn sh (n + 1)) (Lq B N) (wip S n) A s H1 locs → W p l e R s m args below meth c H1 locs (cells + 1) (slots + 1000) Q (F0 m (pc + 3) ls (.ref (ad (Lq B N) n) :: rest))) : W p l e R s m args below meth c H locs cells slots Q (F0 m pc ls (.int i :: rest)) := by
  have hts := C.2.2.2.2.1
  refine W_size fun hle9 => ?_
  have hH := mV_size hW hn0 (by omega) hs hle9
  have had : ad (Lq B N) n = H.size := by rw [ad_Lq hn, hH]
  refine W.anew C.1 C.2.1 C.2.2.2.1 (hts _ hclk) (va_AO.use hAO) rfl hd rfl hi0 (by omega) hcells (by omega) fun cA kA comp f1 f2 f3 f4 => ?_
  refine W.widen (k := cells + 1) (n := slots + 1000) (Nat.le_refl _) (by omega) ?_
  generalize hH1 : H.push ({ cls := cA, slots := Array.replicate i.toNatClampNeg .null, vm := .none } : Cell) = H1
  have z1 : H1.size = H.size + 1 := by rw [← hH1, Array.size_push]
  have e1 : H1[H.size]? = some (arrV cA i.toNatClampNeg (fun _ => .null)) := by rw [← hH1, Array.getElem?_push_size, ← arrV_new]
  have o1 : ∀ q : Nat, q < H.size → H1[q]? = H[q]? := fun q hq => by rw [← hH1, Array.getElem?_push, if_neg (Nat.ne_of_lt hq)]
  have hcA : cA = G.2.1 kd := by
    obtain ⟨kA', comp', g1, g2, g3, g4⟩ := (hW.1.2 k0 _ hk0).2
    exact Option.some.inj (f1.symm.trans g4)
  subst hcA
  have h2 := kk H1 (mV_push hW hH hN1 hn (by
    rw [mcell_r hk hkd]
    show H1[H.size]? = some (vp_cell _ _)
    rw [vp_cell_q, ← hi]
    rw [e1]
    have : (fun j => va_rf (ro (Lq B N) ((wip S n).2.1 n j))) = (fun _ : Nat => Value.null) := by
      funext j; simp [wip, ro, va_rf]
    rw [this]) z1 o1)
  rw [had] at h2
  exact h2
/-! fields in a constructor -/
def mFf (own : String) (idx ci j kt : Nat) (ty : FieldType) : Prop := ci < 12 ∧ (kfs ci)[j]? = some kt ∧ ∃ (T : u_T) (N : Nat) (tf : Nat → FieldType), vwCl[ci]? = some (own, T, N) ∧ j < N ∧ (∀ w ∈ u_ws own T N, w ∈ gtbl) ∧ Cond.fieldLink own idx (T j).1 (T j).2.1 (T j).2.2.1 ∈ gtbl ∧
  (∀ k, k < N → parseFieldDescriptor (T k).2.2.1 = some (tf k)) ∧ (∀ a, a < N → ∀ b, b < N → a ≠ b → (T a).2.1 ≠ (T b).2.1) ∧ (T j).2.2.2 = true ∧ (T j).1 = own ∧ parseFieldDescriptor (T j).2.2.1 = some ty
variable {L : List Nat}
theorem m_putiF {o ci j idx : Nat} {v : Int32} (C : mC p s m args meth c cc own nL ret) (hin2 : meth.name = "<init>") (hW : mWb b G sh L S A s H locs) (ho : o < sh.1 ∧ sh.2.1 o = ci) (F : mFf own idx ci j 99 .int) (hd : decode cc pc = .ok (.putfield idx, 3))
    (kk : ∀ (H1 : Heap) (locs1 : List Loc), mWb b G sh L (pI S o j v) A s H1 locs1 → W p l e R s m args below meth c H1 locs1 cells slots Q (F0 m (pc + 3) ls rest)) : W p l e R s m args below meth c H locs cells slots Q (F0 m pc ls (.int v :: .ref (ad L o) :: rest)) := by
  obtain ⟨hci, hj, T, N, tf, hc, hjN, hin, hl, hty, hnm, hfin, hdecl, hty1⟩ := F
  have he := mws_get (G := G) (L := L) (S := S) ho.1
  rw [mcell_obj ho.2 hci] at he
  have hlen : j < (mfs ci L S o).length := by rw [mfs_len]; exact (List.getElem?_eq_some_iff.mp hj).1
  exact va_putF C.1 C.2.1 C.2.2.2.2.1 hin tf hty hnm C.2.2.2.1 hW.1 hW.2.1 hW.2.2.1 hW.2.2.2.1 o he hc j hjN (C.2.2.2.2.1 _ hl) (fun _ h => h) hfin hin2 hdecl hty1 rfl rfl hlen hd (fun H1 locs1 hP hD hS =>
    kk H1 locs1 (hW.set (by rw [mcell_obj ho.2 hci, mfs_pI hj]) (fun k h => mcell_pI_ne h) hW.2.2.2.2.1 hP hD hS))
theorem m_putrF {o ci j idx kt v : Nat} {ty : FieldType} (C : mC p s m args meth c cc own nL ret) (hin2 : meth.name = "<init>") (hW : mWb b G sh L S A s H locs) (ho : o < sh.1 ∧ sh.2.1 o = ci) (F : mFf own idx ci j kt ty) (hkt : kt ≠ 99) (hty0 : (∃ n, ty = .object n) ∨ ∃ t, ty = .array t) (hv : v < sh.1 ∧ sh.2.1 v = kt) (hd : decode cc pc = .ok (.putfield idx, 3))
    (kk : ∀ (H1 : Heap) (locs1 : List Loc), mWb b G sh L (pR S o j v) A s H1 locs1 → W p l e R s m args below meth c H1 locs1 cells slots Q (F0 m (pc + 3) ls rest)) : W p l e R s m args below meth c H locs cells slots Q (F0 m pc ls (.ref (ad L v) :: .ref (ad L o) :: rest)) := by
  obtain ⟨hci, hj, T, N, tf, hc, hjN, hin, hl, hty, hnm, hfin, hdecl, hty1⟩ := F
  have he := mws_get (G := G) (L := L) (S := S) ho.1
  rw [mcell_obj ho.2 hci] at he
  have hlen : j < (mfs ci L S o).length := by rw [mfs_len]; exact (List.getElem?_eq_some_iff.mp hj).1
  have hn : narrow ty (.ref (ad L v)) = .ref (ad L v) := by rcases hty0 with ⟨n, rfl⟩ | ⟨t, rfl⟩ <;> rfl
  have hfit : fits ty (.ref (ad L v)) = true := by rcases hty0 with ⟨n, rfl⟩ | ⟨t, rfl⟩ <;> rfl
  have hnn : v ≠ nul := by have := hW.2.2.2.2.1.1; unfold nul; omega
  have hT : mWT b sh (pR S o j v) := mWT_pR hW.2.2.2.2.1 (by rw [mrk_obj ho.2 hci hj]; exact hv)
  exact va_putF C.1 C.2.1 C.2.2.2.2.1 hin tf hty hnm C.2.2.2.1 hW.1 hW.2.1 hW.2.2.1 hW.2.2.2.1 o he hc j hjN (C.2.2.2.2.1 _ hl) (fun _ h => h) hfin hin2 hdecl hty1 hn hfit hlen hd (fun H1 locs1 hP hD hS =>
    kk H1 locs1 (hW.set (by rw [mcell_obj ho.2 hci, mfs_pR hj hkt, rv_ref hnn]) (fun k h => mcell_pR_ne h) hT hP hD hS))
theorem up2_ro (f : Nat → Nat → Nat) (L : List Nat) (o k v : Nat) (hv : v ≠ nul) : (fun j => ro L (up2 f o k v o j)) = va_up (fun j => ro L (f o j)) k (some (ad L v)) := by
  funext j
  by_cases h : j = k
  · subst h; simp [up2, va_up, ro_ref hv]
  · simp [up2, va_up, h]
theorem m_aast {o t kt v : Nat} {i : Int32} {cn : String} {T : u_T} {N0 : Nat} (C : mC p s m args meth c cc own nL ret) (hW : mWb b G sh L S A s H locs) (ho : o < sh.1 ∧ sh.2.1 o = t) (ht : (t = 16 ∧ kt = 1 ∧ cn = "ShadowTwin$Law") ∨ (t = 17 ∧ kt = 9 ∧ cn = "ShadowTwin$World")) (hc : vwCl[kt]? = some (cn, T, N0)) (hv : v < sh.1 ∧ sh.2.1 v = kt) (hin : bnd i (sh.2.2 o) = true) (hd : decode cc pc = .ok (.aastore, 1))
    (kk : ∀ (H1 : Heap) (locs1 : List Loc), mWb b G sh L (pR S o i.toNatClampNeg v) A s H1 locs1 → W p l e R s m args below meth c H1 locs1 cells slots Q (F0 m (pc + 1) ls rest)) : W p l e R s m args below meth c H locs cells slots Q (F0 m pc ls (.ref (ad L v) :: .int i :: .ref (ad L o) :: rest)) := by
  have he := mws_get (G := G) (L := L) (S := S) ho.1
  have hev := mws_get (G := G) (L := L) (S := S) hv.1
  have hnn : v ≠ nul := by have := hW.2.2.2.2.1.1; unfold nul; omega
  have hlt : i.toNatClampNeg < sh.2.2 o := (of_decide_eq_true hin).2
  have hk12 : kt < 12 := by rcases ht with ⟨-, rfl, -⟩ | ⟨-, rfl, -⟩ <;> decide
  have hrk : mrk sh o i.toNatClampNeg = kt := by
    unfold mrk; rw [ho.2]; rcases ht with ⟨rfl, rfl, -⟩ | ⟨rfl, rfl, -⟩ <;> simp [hlt]
  rw [mcell_obj hv.2 hk12] at hev
  have hT : mWT b sh (pR S o i.toNatClampNeg v) := mWT_pR hW.2.2.2.2.1 (by rw [hrk]; exact hv)
  have htt : t = 16 ∨ t = 17 := by rcases ht with ⟨h, -⟩ | ⟨h, -⟩ <;> simp [h]
  rw [mcell_r ho.2 htt] at he
  have key : ∀ (H1 : Heap) (locs1 : List Loc), va_P G.1 vwCl ((mws G sh L S).set o (ad L o, .inl (G.2.1 t, sh.2.2 o, .inr (.inr (.inr (.inr (va_up (fun j => ro L (S.2.1 o j)) i.toNatClampNeg (some (ad L v))))))))) H1 → va_D A ((mws G sh L S).set o (ad L o, .inl (G.2.1 t, sh.2.2 o, .inr (.inr (.inr (.inr (va_up (fun j => ro L (S.2.1 o j)) i.toNatClampNeg (some (ad L v))))))))) → va_S A s.heap H1 locs1 → W p l e R s m args below meth c H1 locs1 cells slots Q (F0 m (pc + 1) ls rest) := fun H1 locs1 hP hD hS =>
    kk H1 locs1 (hW.set (by rw [mcell_r ho.2 htt]; simp only [pR, up2_ro _ _ _ _ _ hnn]) (fun k h => mcell_pR_ne h) hT hP hD hS)
  rcases ht with ⟨rfl, rfl, rfl⟩ | ⟨rfl, rfl, rfl⟩
  · exact va_astq C.1 C.2.1 hW.1 hW.2.1 hW.2.2.1 hW.2.2.2.1 o 4 v 1 he rfl hev hc (bnd_in hin) hd key
  · exact va_astq C.1 C.2.1 hW.1 hW.2.1 hW.2.2.1 hW.2.2.2.1 o 5 v 9 he rfl hev hc (bnd_in hin) hd key
/-! a constructor's beginning, its end, calls of constructors -/
theorem mc_enter {y : MethodName} {maxL d mc ms n' : Nat} {av : List Value} {lv : List (Nat × Value)} {S' : MS} (hy : plainName y.cls = true) (hyn : y.name = "<init>") (hlen : (lg_sl av).length ≤ maxL) (hlv : lv_args 0 av = lv) (hnN : n ≤ N)
    (body : ∀ (p : Program) (e : Env) (s : State) (m : MethodId) (below : List Frame) (meth : Method) (c : Code) (ls : Array Slot), mC p s m av.toArray meth c cc y.cls maxL none → meth.name = "<init>" → s.heap.size = B + n → mWb false G (shn sh n) (Lq B N) S (mcA sh B N n) s s.heap [] → lv_has ls maxL lv →
      W p l e (rmC d mc ms) s m av.toArray below meth c s.heap [] 0 0 (MQ below (mQc G sh B N n' S' (mcA sh B N n)) av.toArray s mc ms (mcA sh B N n)) (F0 m 0 ls [])) : MtC l y cc maxL d mc ms G sh B N n n' S av S' := by
  refine Met.ofW (cc := cc) (maxL := maxL) (ret := none) hy rfl ?_
  intro p e s m args below meth c s₁ B' hml hv
  obtain ⟨rfl, hsz, ⟨hK, hP, hD, hT, hN⟩, hE⟩ := hv
  have hts := atoms_spec (ws := .code y cc maxL none :: gtbl) B'.pre
  have hown : s.vm.findClass y.cls = some m.cls := findClass_of_methodNamed B'.named
  have hnm : meth.name = "<init>" := by rw [(name_of_methodNamed B'.named B'.method).1]; exact hyn
  rw [lg_entry_eq]
  have hl := lv_entry av hlen
  rw [hlv] at hl
  rw [hsz] at hE
  exact body p e s m below meth c _ ⟨B'.exec, B'.bytes, hml, hown, fun w h => hts w (List.mem_cons_of_mem _ h), B'.returns, B'.notSynchronized⟩ hnm hsz
    ⟨hK, hP, ⟨hD.1, fun k q hk => Or.inl ⟨k, (mws_at hk).1, (mws_at hk).2⟩⟩, va_S.rf, hT, fun q h => Or.inr (by rw [← hsz]; exact h), hN, hE⟩ hl
theorem mc_ret {n0 : Nat} (C : mC p s m args meth c cc own nL none) (hW : mWb false G (shn sh n) (Lq B N) S (mcA sh B N n0) s H locs) (hs : s.heap.size + cells = B + n) (hn0 : 0 < n) (hn : n ≤ N) (hd : decode cc pc = .ok (.return_, 1)) :
    W p l e R s m args below meth c H locs cells slots (MQ below (mQc G sh B N n S (mcA sh B N n0)) args s cells slots (mcA sh B N n0)) (F0 m pc ls []) := by
  refine W_size fun hle => ?_
  have hH := mV_size hW hn0 hn hs hle
  exact W.vret C.1 C.2.1 C.2.2.2.2.2.1 (fun t ht hw => ⟨⟨rfl, by rw [ht]; exact hH, (hW.end' ht hw).1⟩, (hW.end' ht hw).2⟩) hW.2.2.2.1.2.2 hd C.2.2.2.2.2.2
end MC
section MD
variable {p : Program} {l : Launch} {e : Env} {R : Room} {s : State} {m : MethodId} {args : Array Value} {below : List Frame} {meth : Method} {c : Code} {H : Heap} {locs : List Loc} {cells slots : Nat} {Q : State → Prop}
  {cc : ByteArray} {own : String} {nL : Nat} {ret : Option FieldType} {b : Bool} {G : Gv} {sh : Sh} {B N n : Nat} {S : MS} {A : Nat → Prop} {pc : Nat} {ls : Array Slot} {rest : List Value} {L : List Nat}
theorem mc_pre {av : List Value} (hW : mWb b G sh L S A s H locs) (hH : H.size = B + n) : ∀ U : State, U.heap = H → s.WarmedH U.vm → va_Pc av (fun U => U.heap.size = B + n ∧ mHb b G sh L S U) av.toArray U := by
  intro U hU hw
  have h := hW.pre (av := av) U hU hw
  exact ⟨h.1, by rw [hU]; exact hH, h.2.2⟩
theorem mc_after {S' : MS} {st0 : List Value} {a : Array Value} {n' mc ms : Nat} (hW : mWb false G (shn sh n) (Lq B N) S A s H locs) (hH : H.size = B + n) (hn' : n' ≤ N) (hr : va_Run p l e R s m args below meth c H locs cells slots mc ms (F0 m pc ls st0) rest (mQc G sh B N n' S' (mcA sh B N n) a) (mcA sh B N n))
    (kk : ∀ (H1 : Heap) (locs1 : List Loc), mWb false G (shn sh n') (Lq B N) S' A s H1 locs1 → W p l e R s m args below meth c H1 locs1 (cells + mc) (slots + ms) Q (F0 m (pc + 3) ls rest)) : W p l e R s m args below meth c H locs cells slots Q (F0 m pc ls st0) := by
  intro T hT X
  obtain ⟨v, st₀, t, T', Ls, h0, X', hL, e1, e2, ⟨⟨hv, hsz, hHo⟩, hz, hk⟩, st⟩ := hr T hT X
  cases hv
  rw [h0] at hz hk
  have hfree : ∀ q, mcA sh B N n q → A q := by
    have h := mA_free hW
    rw [hH] at h
    exact h
  obtain ⟨hK, hP, hD, hS, hTy, hA, hN, hE⟩ := hW
  obtain ⟨hK', hP', hD', hT', -⟩ := hHo
  have hS' : va_S A s.heap T'.heap (locs ++ Ls) := ⟨Nat.le_trans hS.1 (by rw [e1]; exact hz), fun q h1 h2 => by rw [e1, hk q (Nat.lt_of_lt_of_le h1 hS.1) (fun z => h2 (hfree q z))]; exact hS.2.1 q h1 h2, fun q hq => by
      rcases List.mem_append.mp hq with h | h
      · exact hS.2.2 q h
      · exact hfree _ (hL q h)⟩
  obtain ⟨t2, a1, b1⟩ := kk T'.heap (locs ++ Ls) ⟨hK, by rw [e1]; exact hP', ⟨hD'.1, fun k q hq => by
    have h1 := mws_at hq
    rw [h1.2]
    have hkn : k < n' := h1.1
    by_cases hkk : k < n
    · exact hfree _ (Or.inl ⟨k, hkk, rfl⟩)
    · exact hfree _ (Or.inr (by rw [ad_Lq (by omega)]; omega))⟩, hS', hT', hA, hN, hE⟩ T' rfl X'
  exact ⟨t2, st t2 a1, b1⟩
/-- a constructor that an instruction names -/
def mLi (own : String) (idx : Nat) (y : MethodName) (bytes : ByteArray) (maxL : Nat) (k : Nat) : Prop := (Cond.methodLink own idx y ∈ gtbl ∨ ∃ host, Cond.methodLinkNest own idx y host ∈ ntbl) ∧ Cond.instanceMethod y ∈ gtbl ∧ Cond.initialized y.cls ∈ gtbl ∧ Cond.code y bytes maxL none ∈ gtbl ∧ y.name = "<init>" ∧ (y.cls ≠ "java/lang/invoke/MethodHandle" ∧ y.cls ≠ "java/lang/invoke/VarHandle" ∧ (parseMethodDescriptor y.desc).map (fun d => d.parameters.length) = some k)
theorem mc_callI {y : MethodName} {bytes : ByteArray} {maxL d' mc' ms' o idx k n' : Nat} {As st : List Value} {S' : MS} (C : mC p s m args meth c cc own nL ret) (hW : mWb false G (shn sh n) (Lq B N) S A s H locs) (hs : s.heap.size + cells = B + n) (hn0 : 0 < n) (hnN : n ≤ N) (hn' : n' ≤ N)
    (hM : MtC l y bytes maxL d' mc' ms' G sh B N n n' S (.ref (ad (Lq B N) o) :: As) S') (K : mLi own idx y bytes maxL k) (hn : As.length = k) (hl : ls.size = nL) (hst : st = As.reverse ++ .ref (ad (Lq B N) o) :: rest) (hrm : (rest.map fun v => v.category).sum ≤ 8) (hfr : d' + 1 ≤ R.frames) (hlo : 8 + (maxL + 11) + 64 * d' ≤ R.locals) (hce : cells + mc' ≤ R.cells) (hsl : slots + ms' ≤ R.slots)
    (hd : decode cc pc = .ok (.invokespecial idx, 3)) (kk : ∀ (H1 : Heap) (locs1 : List Loc), mWb false G (shn sh n') (Lq B N) S' A s H1 locs1 → W p l e R s m args below meth c H1 locs1 (cells + mc') (slots + ms') Q (F0 m (pc + 3) ls rest)) : W p l e R s m args below meth c H locs cells slots Q (F0 m pc ls st) := by
  obtain ⟨hlk, hin, hini, hcode, hyn, hmh⟩ := K
  refine W_size fun hle => ?_
  have hH := mV_size hW hn0 hnN hs hle
  have hts := C.2.2.2.2.1
  have hR : (rmC d' mc' ms').frames + 1 ≤ R.frames ∧ 8 + (maxL + 11) + (rmC d' mc' ms').locals ≤ R.locals := ⟨hfr, hlo⟩
  have hbl : FrameBlind (va_Pc (.ref (ad (Lq B N) o) :: As) (fun U => U.heap.size = B + n ∧ mHb false G (shn sh n) (Lq B N) S U)) := mH_blind
  have hpre := mc_pre (av := .ref (ad (Lq B N) o) :: As) hW hH
  subst hst
  rcases hlk with hlk | ⟨host, hlk⟩
  · exact mc_after hW hH hn' (va_runI (rest := rest) ⟨C.1, C.2.1, C.2.2.1, C.2.2.2.1, hts⟩ hM ⟨callB_of k hts (tbl_good hcode) rfl rfl rfl (hts _ hini) (hts _ hlk) hmh hR, hyn, hts _ hin⟩ ⟨hbl, hpre⟩ rfl hn hl rfl (lv_room hrm) hd ⟨hce, hsl⟩) kk
  · exact mc_after hW hH hn' (va_runIN (rest := rest) ⟨C.1, C.2.1, C.2.2.1, C.2.2.2.1, hts⟩ hM ⟨va_cnB k hts (tbl_good hcode) rfl rfl rfl (hW.2.2.2.2.2.2.1 _ hlk) (hts _ hini) hmh hR, hyn, hts _ hin⟩ ⟨hbl, hpre⟩ rfl hn hl rfl (lv_room hrm) hd ⟨hce, hsl⟩) kk
/-- a method's call out of a constructor, or wherever cells were made -/
theorem mc_callV {y : MethodName} {bytes : ByteArray} {maxL d' o ci idx n : Nat} {rt : Option FieldType} {As st : List Value} {out : Option Value} {S' : MS} (C : mC p s m args meth c cc own nL ret) (hW : mWb b G sh L S A s H locs) (ho : o < sh.1 ∧ sh.2.1 o = ci) (hM : Mtb b l y bytes maxL rt d' G sh L S (.ref (ad L o) :: As) out S') (K : mLm own idx ci y bytes maxL rt n)
    (hc12 : ci < 12) (hn : As.length = n) (hl : ls.size = nL) (hst : st = As.reverse ++ .ref (ad L o) :: rest) (hrm : (rest.map fun v => v.category).sum ≤ 8) (hfr : d' + 1 ≤ R.frames) (hlo : 8 + (maxL + 11) + 64 * d' ≤ R.locals) (hce : cells ≤ R.cells) (hsl : slots ≤ R.slots) (hd : decode cc pc = .ok (.invokevirtual idx, 3))
    (kk : ∀ (H1 : Heap) (locs1 : List Loc), mWb b G sh L S' A s H1 locs1 → W p l e R s m args below meth c H1 locs1 cells slots Q (F0 m (pc + 3) ls (out.toList ++ rest))) : W p l e R s m args below meth c H locs cells slots Q (F0 m pc ls st) := by
  obtain ⟨cn, T, N, hc, hcn, hlk, hin, hsel, hini, hcode, hmh⟩ := K
  subst hcn
  have hts := C.2.2.2.2.1
  have hR : (rmd d').frames + 1 ≤ R.frames ∧ 8 + (maxL + 11) + (rmd d').locals ≤ R.locals := ⟨hfr, hlo⟩
  have he := mws_get (G := G) (L := L) (S := S) ho.1
  rw [mcell_obj ho.2 hc12] at he
  have hrecv := va_recv hW.1 hW.2.1 hc he
  have hbl : FrameBlind (va_Pc (.ref (ad L o) :: As) (fun U => U.heap.size = H.size ∧ mHb b G sh L S U)) := mH_blind
  have hpre := hW.pre (av := .ref (ad L o) :: As)
  subst hst
  rcases hlk with hlk | ⟨host, hlk⟩
  · exact m_after hW (va_runV (rest := rest) ⟨C.1, C.2.1, C.2.2.1, C.2.2.2.1, hts⟩ (hM H.size) ⟨callB_of n hts (tbl_good hcode) rfl rfl rfl (hts _ hini) (hts _ hlk) hmh hR, hts _ hin, hts _ hsel⟩ ⟨hbl, hrecv, hpre⟩ rfl hn hl rfl (lv_room hrm) hd ⟨hce, hsl⟩) kk
  · exact m_after hW (va_runVN (rest := rest) ⟨C.1, C.2.1, C.2.2.1, C.2.2.2.1, hts⟩ (hM H.size) ⟨va_cnB n hts (tbl_good hcode) rfl rfl rfl (hW.2.2.2.2.2.2.1 _ hlk) (hts _ hini) hmh hR, hts _ hin, hts _ hsel⟩ ⟨hbl, hrecv, hpre⟩ rfl hn hl rfl (lv_room hrm) hd ⟨hce, hsl⟩) kk
theorem mc_callK {y : MethodName} {bytes : ByteArray} {maxL d' idx n : Nat} {rt : Option FieldType} {As st : List Value} {out : Option Value} {S' : MS} (C : mC p s m args meth c cc own nL ret) (hW : mWb b G sh L S A s H locs) (hM : Mtb b l y bytes maxL rt d' G sh L S (.ref G.2.2.1 :: As) out S')
    (hy : y.cls = "java/lang/String") (hlk : Cond.methodLink own idx y ∈ gtbl) (hin : Cond.instanceMethod y ∈ gtbl) (hsel : Cond.selects "java/lang/String" y y ∈ gtbl) (hini : Cond.initialized "java/lang/String" ∈ gtbl) (hcode : Cond.code y bytes maxL rt ∈ gtbl) (hmh : (parseMethodDescriptor y.desc).map (fun d => d.parameters.length) = some n)
    (hn : As.length = n) (hl : ls.size = nL) (hst : st = As.reverse ++ .ref G.2.2.1 :: rest) (hrm : (rest.map fun v => v.category).sum ≤ 8) (hfr : d' + 1 ≤ R.frames) (hlo : 8 + (maxL + 11) + 64 * d' ≤ R.locals) (hce : cells ≤ R.cells) (hsl : slots ≤ R.slots) (hd : decode cc pc = .ok (.invokevirtual idx, 3))
    (kk : ∀ (H1 : Heap) (locs1 : List Loc), mWb b G sh L S' A s H1 locs1 → W p l e R s m args below meth c H1 locs1 cells slots Q (F0 m (pc + 3) ls (out.toList ++ rest))) : W p l e R s m args below meth c H locs cells slots Q (F0 m pc ls st) := by
  have hts := C.2.2.2.2.1
  have hR : (rmd d').frames + 1 ≤ R.frames ∧ 8 + (maxL + 11) + (rmd d').locals ≤ R.locals := ⟨hfr, hlo⟩
  have hrecv := vk_recv hW.str (i := 0) (by decide) hW.vs
  have hbl : FrameBlind (va_Pc (.ref G.2.2.1 :: As) (fun U => U.heap.size = H.size ∧ mHb b G sh L S U)) := mH_blind
  have hpre := hW.pre (av := .ref G.2.2.1 :: As)
  subst hst
  have hmh2 : y.cls ≠ "java/lang/invoke/MethodHandle" ∧ y.cls ≠ "java/lang/invoke/VarHandle" ∧ (parseMethodDescriptor y.desc).map (fun d => d.parameters.length) = some n := ⟨by rw [hy]; decide, by rw [hy]; decide, hmh⟩
  exact m_after hW (va_runV (rest := rest) (C := "java/lang/String") ⟨C.1, C.2.1, C.2.2.1, C.2.2.2.1, hts⟩ (hM H.size) ⟨callB_of n hts (tbl_good hcode) rfl rfl rfl (by rw [hy]; exact hts _ hini) (hts _ hlk) hmh2 hR, hts _ hin, hts _ hsel⟩ ⟨hbl, hrecv, hpre⟩ rfl hn hl rfl (lv_room hrm) hd ⟨hce, hsl⟩) kk
/-- no reference is null any more -/
def noNull (sh : Sh) (S : MS) : Bool := (List.range sh.1).all fun o => (List.range 80).all fun j => mrk sh o j == 99 || S.2.1 o j != nul
theorem mW_up (hW : mWb false G sh L S A s H locs) (hb : ∀ o j, o < sh.1 → 80 ≤ j → mrk sh o j = 99) (h : noNull sh S = true) : mW G sh L S A s H locs := by
  obtain ⟨hK, hP, hD, hS, hT, hr⟩ := hW
  refine ⟨hK, hP, hD, hS, ⟨hT.1, fun o j ho hj _ => hT.2 o j ho hj (fun _ => ?_)⟩, hr⟩
  by_cases h80 : j < 80
  · have h1 := List.all_eq_true.mp h o (List.mem_range.mpr ho)
    have h2 := List.all_eq_true.mp h1 j (List.mem_range.mpr h80)
    simp only [Bool.or_eq_true, beq_iff_eq, bne_iff_ne] at h2
    rcases h2 with h2 | h2
    · exact absurd h2 hj
    · exact h2
  · exact absurd (hb o j ho (by omega)) hj
/-- the end of a constructor behind which all stands -/
theorem mc_retS {A0 : Nat → Prop} (C : mC p s m args meth c cc own nL none) (hW : mW G sh L S A0 s H locs) (hd : decode cc pc = .ok (.return_, 1)) :
    W p l e R s m args below meth c H locs cells slots (MQ below (mQ G sh L S none A0) args s cells slots A0) (F0 m pc ls []) :=
  W.vret C.1 C.2.1 C.2.2.2.2.2.1 (fun t ht hw => ⟨⟨rfl, (hW.end' ht hw).1⟩, (hW.end' ht hw).2⟩) hW.2.2.2.1.2.2 hd C.2.2.2.2.2.2
/-- the outermost constructor's contract: behind it the memory stands -/
def MtD (l : Launch) (y : MethodName) (cc : ByteArray) (maxL d mc ms : Nat) (G : Gv) (sh : Sh) (B N n : Nat) (S : MS) (av : List Value) (S' : MS) : Prop :=
  Met l y (.code y cc maxL none :: gtbl) (rmC d mc ms) (va_Pc av (fun U => U.heap.size = B + n ∧ mHb false G (shn sh n) (Lq B N) S U)) (mQ G sh (Lq B N) S' none (mcA sh B N n)) mc ms (mcA sh B N n)
theorem md_enter {y : MethodName} {maxL d mc ms : Nat} {av : List Value} {lv : List (Nat × Value)} {S' : MS} (hy : plainName y.cls = true) (hyn : y.name = "<init>") (hlen : (lg_sl av).length ≤ maxL) (hlv : lv_args 0 av = lv) (hnN : n ≤ N)
    (body : ∀ (p : Program) (e : Env) (s : State) (m : MethodId) (below : List Frame) (meth : Method) (c : Code) (ls : Array Slot), mC p s m av.toArray meth c cc y.cls maxL none → meth.name = "<init>" → s.heap.size = B + n → mWb false G (shn sh n) (Lq B N) S (mcA sh B N n) s s.heap [] → lv_has ls maxL lv →
      W p l e (rmC d mc ms) s m av.toArray below meth c s.heap [] 0 0 (MQ below (mQ G sh (Lq B N) S' none (mcA sh B N n)) av.toArray s mc ms (mcA sh B N n)) (F0 m 0 ls [])) : MtD l y cc maxL d mc ms G sh B N n S av S' := by
  refine Met.ofW (cc := cc) (maxL := maxL) (ret := none) hy rfl ?_
  intro p e s m args below meth c s₁ B' hml hv
  obtain ⟨rfl, hsz, ⟨hK, hP, hD, hT, hN⟩, hE⟩ := hv
  have hts := atoms_spec (ws := .code y cc maxL none :: gtbl) B'.pre
  have hown : s.vm.findClass y.cls = some m.cls := findClass_of_methodNamed B'.named
  have hnm : meth.name = "<init>" := by rw [(name_of_methodNamed B'.named B'.method).1]; exact hyn
  rw [lg_entry_eq]
  have hl := lv_entry av hlen
  rw [hlv] at hl
  rw [hsz] at hE
  exact body p e s m below meth c _ ⟨B'.exec, B'.bytes, hml, hown, fun w h => hts w (List.mem_cons_of_mem _ h), B'.returns, B'.notSynchronized⟩ hnm hsz
    ⟨hK, hP, ⟨hD.1, fun k q hk => Or.inl ⟨k, (mws_at hk).1, (mws_at hk).2⟩⟩, va_S.rf, hT, fun q h => Or.inr (by rw [← hsz]; exact h), hN, hE⟩ hl
end MD
