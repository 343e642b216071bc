/-! ===== four hours laid out: worths ===== -/
def bitI (x : Int32) (i : Nat) : Prop := (x >>> (nI i &&& 31)) &&& 1 = 1
theorem worGo_s {T : TT} {x a : Int32} {n i : Nat} : worGo T x (n + 1) i a = worGo T x n (i + 1) (if (x >>> (nI i &&& 31)) &&& 1 = 1 then a + tb T 3 i 4 else a) := rfl
theorem wor_rng {T : TT} {x : Int32} (hE : WE T) : ∀ (n i A : Nat), i + n ≤ nq T 3 → A + 99 * n < 2 ^ 31 → ∃ B, worGo T x n i (nI A) = nI B ∧ A ≤ B ∧ B ≤ A + 99 * n := by
  intro n
  induction n with
  | zero => intro i A _ _; exact ⟨A, rfl, Nat.le_refl _, by omega⟩
  | succ n ih =>
    intro i A h1 h2
    obtain ⟨e1, e2⟩ := hE.2.2 i (by omega)
    obtain ⟨v, hv, ev⟩ := nI_of (x := tb T 3 i 4) (by grind)
    rw [ev, show (99 : Int32) = nI 99 from rfl, nI_leI hv (by decide)] at e2
    rw [worGo_s]
    split
    · rw [ev, nI_add]
      obtain ⟨B, q1, q2, q3⟩ := ih (i + 1) (A + v) (by omega) (by omega)
      exact ⟨B, q1, by omega, by omega⟩
    · obtain ⟨B, q1, q2, q3⟩ := ih (i + 1) A (by omega) (by omega)
      exact ⟨B, q1, by omega, by omega⟩
theorem wor_mono {T : TT} {x y : Int32} (hE : WE T) (hs : ∀ i, i < 8 → bitI x i → bitI y i) : ∀ (n i A A' : Nat), i + n ≤ nq T 3 → i + n ≤ 8 → A ≤ A' → A' + 99 * n < 2 ^ 31 → ∃ B B', worGo T x n i (nI A) = nI B ∧ worGo T y n i (nI A') = nI B' ∧ B ≤ B' ∧ B' ≤ A' + 99 * n := by
  intro n
  induction n with
  | zero => intro i A A' _ _ h _; exact ⟨A, A', rfl, rfl, h, by omega⟩
  | succ n ih =>
    intro i A A' h1 h8 hA h2
    obtain ⟨e1, e2⟩ := hE.2.2 i (by omega)
    obtain ⟨v, hv, ev⟩ := nI_of (x := tb T 3 i 4) (by grind)
    rw [ev, show (99 : Int32) = nI 99 from rfl, nI_leI hv (by decide)] at e2
    rw [worGo_s, worGo_s, ev, nI_add, nI_add]
    have hb := hs i (by omega)
    unfold bitI at hb
    by_cases c1 : (x >>> (nI i &&& 31)) &&& 1 = 1
    · rw [if_pos c1, if_pos (hb c1)]
      obtain ⟨B, B', q1, q2, q3, q4⟩ := ih (i + 1) (A + v) (A' + v) (by omega) (by omega) (by omega) (by omega)
      exact ⟨B, B', q1, q2, q3, by omega⟩
    · rw [if_neg c1]
      by_cases c2 : (y >>> (nI i &&& 31)) &&& 1 = 1
      · rw [if_pos c2]
        obtain ⟨B, B', q1, q2, q3, q4⟩ := ih (i + 1) A (A' + v) (by omega) (by omega) (by omega) (by omega)
        exact ⟨B, B', q1, q2, q3, by omega⟩
      · rw [if_neg c2]
        obtain ⟨B, B', q1, q2, q3, q4⟩ := ih (i + 1) A A' (by omega) (by omega) (by omega) (by omega)
        exact ⟨B, B', q1, q2, q3, by omega⟩
set_option maxRecDepth 100000 in
theorem not_dec : ∀ x, x < 256 → ∀ i, i < 8 → (((nI x ^^^ (-1 : Int32)) >>> (nI i &&& 31)) &&& 1 = 1 ↔ ¬ (nI x >>> (nI i &&& 31)) &&& 1 = 1) := by decide +kernel
set_option maxRecDepth 100000 in
theorem sub_dec : ∀ x, x < 256 → ∀ i, i < 8 → ∀ j, j < 8 → (nI x >>> (nI i &&& 31)) &&& 1 = 1 → ((nI x ||| ((1 : Int32) <<< (nI j &&& 31))) >>> (nI i &&& 31)) &&& 1 = 1 := by decide +kernel
def totGo (T : TT) : Nat → Nat → Int32
  | 0, _ => 0
  | n + 1, i => tb T 3 i 4 + totGo T n (i + 1)
theorem wor_not {T : TT} {x : Nat} (hx : x < 256) : ∀ (n i : Nat) (a b : Int32), i + n ≤ 8 → worGo T (nI x) n i a + worGo T (nI x ^^^ (-1)) n i b = a + b + totGo T n i
  | 0, i, a, b, _ => by unfold worGo totGo; grind
  | n + 1, i, a, b, h => by
    rw [worGo_s, worGo_s]
    have hd := not_dec x hx i (by omega)
    unfold totGo
    by_cases c : (nI x >>> (nI i &&& 31)) &&& 1 = 1
    · rw [if_pos c, if_neg (fun hh => hd.mp hh c), wor_not hx n (i + 1) _ _ (by omega)]; grind
    · rw [if_neg c, if_pos (hd.mpr c), wor_not hx n (i + 1) _ _ (by omega)]; grind
theorem b256 {T : TT} {w : Nat → Int32} (h : WOK T w) : ∃ x, x < 256 ∧ w 8 = nI x := by
  obtain ⟨x, hx, e⟩ := nI_of (Int32.not_lt.mpr h.2.1.2.2.1)
  have := h.2.1.2.2.2
  rw [e, show (256 : Int32) = nI 256 from rfl, nI_ltI hx (by decide)] at this
  exact ⟨x, this, e⟩
/-- what is left to be done -/
def undS (T : TT) (w : Nat → Int32) : Int32 := worS T (w 8 ^^^ (-1))
theorem wor_und {T : TT} {w v : Nat → Int32} (hC : WC T) (hw : WOK T w) (hv : WOK T v) : undS T w - worS T (v 8 ^^^ (-1)) = worS T (v 8) - worS T (w 8) := by
  obtain ⟨x, hx, ex⟩ := b256 hw
  obtain ⟨y, hy, ey⟩ := b256 hv
  have hn := nq_le hC
  have a := wor_not (T := T) hx (nq T 3) 0 0 0 (by omega)
  have b := wor_not (T := T) hy (nq T 3) 0 0 0 (by omega)
  unfold undS worS
  rw [ex, ey]
  grind
theorem und_top {T : TT} {w : Nat → Int32} {y : Int32} (hC : WC T) (hE : WE T) : undS T w - worS T y ≤ undS T w := by
  have hn := nq_le hC
  obtain ⟨U, e1, -, h1⟩ := wor_rng (x := w 8 ^^^ (-1)) hE (nq T 3) 0 0 (by omega) (by omega)
  obtain ⟨V, e2, -, h2⟩ := wor_rng (x := y) hE (nq T 3) 0 0 (by omega) (by omega)
  have e1' : undS T w = nI U := e1
  have e2' : worS T y = nI V := e2
  rw [e1', e2', i_le, i_sub, nI_toInt (by omega), nI_toInt (by omega)]
  · omega
  · rw [nI_toInt (by omega), nI_toInt (by omega)]; omega
  · rw [nI_toInt (by omega), nI_toInt (by omega)]; omega
/-- one more hour, laid out -/
def nxW (T : TT) (W : Nat → Int32) (d : Nat) : Nat → Int32 := passW T 0 false (if d < 4 then attW T 0 (nI d) W else W)
def dg (j k : Nat) : Nat := if j = 0 then k / 125 else if j = 1 then k / 25 % 5 else if j = 2 then k / 5 % 5 else k % 5
def pre (T : TT) (W : Nat → Int32) (c : Nat) : Nat → (Nat → Int32)
  | 0 => W
  | j + 1 => nxW T (pre T W c j) (dg j c)
theorem pre_congr {T : TT} {W : Nat → Int32} {c c' : Nat} : ∀ j, (∀ i, i < j → dg i c = dg i c') → pre T W c j = pre T W c' j
  | 0, _ => rfl
  | j + 1, h => by
    show nxW T _ _ = nxW T _ _
    rw [pre_congr j (fun i hi => h i (by omega)), h j (by omega)]
theorem nx_mid {T : TT} {W : Nat → Int32} {d a : Nat} (hk : WOK T W) (ea : W 3 = nI a) : WOK T (if d < 4 then attW T 0 (nI d) W else W) ∧ (if d < 4 then attW T 0 (nI d) W else W) 3 = nI a := by
  split
  · exact ⟨WOK_att hk, by rw [att_3]; exact ea⟩
  · exact ⟨hk, ea⟩
theorem nx_ok {T : TT} {W : Nat → Int32} {d a : Nat} (hW : WT T) (hk : WOK T W) (ea : W 3 = nI a) (ha : a < 20000) : WOK T (nxW T W d) ∧ nxW T W d 3 = nI (a + 1) := by
  obtain ⟨h1, h2⟩ := nx_mid (d := d) hk ea
  unfold nxW
  exact ⟨WOK_pass hW h1 (by rw [h2, show (20000 : Int32) = nI 20000 from rfl, nI_ltI (by omega) (by decide)]; exact ha), by rw [pass_3, h2, nI_1]⟩
theorem pre_ok {T : TT} {W : Nat → Int32} {c a : Nat} (hW : WT T) (hk : WOK T W) (ea : W 3 = nI a) (ha : a ≤ 9900) : ∀ j, j ≤ 4 → WOK T (pre T W c j) ∧ pre T W c j 3 = nI (a + j)
  | 0, _ => ⟨hk, ea⟩
  | j + 1, h => by
    obtain ⟨h1, h2⟩ := pre_ok (c := c) hW hk ea ha j (by omega)
    exact nx_ok (a := a + j) hW h1 h2 (by omega)
/-- done stays done -/
def subW (w v : Nat → Int32) : Prop := ∀ i, i < 8 → bitI (w 8) i → bitI (v 8) i
theorem subW.tr {w v u : Nat → Int32} (h : subW w v) (g : subW v u) : subW w u := fun i hi hb => g i hi (h i hi hb)
theorem subW_do {T : TT} {fr fc : Int32} {one : Bool} {j : Nat} {w : Nat → Int32} (h : WOK T w) (hj : j < 8) : subW w (doW T fr fc one j w) := by
  unfold doW
  generalize (if tb T 3 j 1 = 0 then decide (w 4 = tb T 3 j 2 ∧ w 5 = tb T 3 j 3) else decide (one = false ∧ fr = tb T 3 j 2 ∧ fc = tb T 3 j 3)) = b
  cases b
  · exact fun i _ hb => hb
  · rw [if_pos rfl]
    intro i hi hb
    unfold bitI at *
    rw [up_same]
    obtain ⟨x, hx, e⟩ := b256 h
    rw [e] at hb ⊢
    exact sub_dec x hx i hi j hj hb
theorem subW_dos {T : TT} {fr fc : Int32} {one : Bool} : ∀ (n i : Nat) (w : Nat → Int32), i + n ≤ 8 → WOK T w → subW w (dosW T fr fc one n i w)
  | 0, _, _, _, _ => fun i _ hb => hb
  | n + 1, i, w, hi, h => (subW_do h (by omega)).tr (subW_dos n (i + 1) _ (by omega) (WOK_do h (by omega)))
theorem att_8 {T : TT} {tw way : Int32} {w : Nat → Int32} : attW T tw way w 8 = w 8 := by
  unfold attW stepW movW
  split
  · split
    · rw [up_ne (by decide), up_ne (by decide)]
    · rw [up_ne (by decide), up_ne (by decide), up_ne (by decide)]
  · rw [up_ne (by decide)]
theorem stp_8 {T : TT} {tw : Int32} : ∀ (n i : Nat) (w : Nat → Int32), stpW T tw n i w 8 = w 8
  | 0, _, _ => rfl
  | n + 1, i, w => by
    show stpW T tw n (i + 1) _ 8 = _
    rw [stp_8 n (i + 1)]
    split
    · exact att_8
    · rfl
theorem subW_pass {T : TT} {tw : Int32} {dr : Bool} {w : Nat → Int32} (hW : WT T) (h : WOK T w) : subW w (passW T tw dr w) := by
  have hn := nq_le hW.1
  unfold passW restW
  have h1 : WOK T (stpW T tw (nq T 2) 0 (cloudW T tw dr w)) := WOK_stp _ _ _ (WOK_cloud h)
  have e8 : stpW T tw (nq T 2) 0 (cloudW T tw dr w) 8 = w 8 := by rw [stp_8, cloud_ne (by decide)]
  intro i hi hb
  unfold bitI at hb ⊢
  rw [end_ne (by decide) (by decide), men_lt (by decide)]
  refine subW_dos _ _ _ (by omega) ?_ i hi ?_
  · split
    · exact WOK_up h1 (by decide)
    · exact h1
  · unfold bitI; rw [if10 (by decide), e8]; exact hb
theorem subW_nx {T : TT} {W : Nat → Int32} {d a : Nat} (hW : WT T) (hk : WOK T W) (ea : W 3 = nI a) : subW W (nxW T W d) := by
  obtain ⟨h1, -⟩ := nx_mid (d := d) hk ea
  refine subW.tr ?_ (subW_pass hW h1)
  intro i hi hb
  unfold bitI at hb ⊢
  split
  · rw [att_8]; exact hb
  · exact hb
theorem subW_pre {T : TT} {W : Nat → Int32} {c a : Nat} (hW : WT T) (hk : WOK T W) (ea : W 3 = nI a) (ha : a ≤ 9900) : ∀ j, j ≤ 4 → subW W (pre T W c j)
  | 0, _ => fun i _ hb => hb
  | j + 1, h => by
    obtain ⟨h1, h2⟩ := pre_ok (c := c) hW hk ea ha j (by omega)
    exact (subW_pre hW hk ea ha j (by omega)).tr (subW_nx hW h1 h2)
/-- what a plan is worth -/
def plF (T : TT) (W : Nat → Int32) (c : Nat) : Int32 := worS T (pre T W c 4 8) - worS T (W 8)
theorem plF_und {T : TT} {W : Nat → Int32} {c a : Nat} (hW : WT T) (hk : WOK T W) (ea : W 3 = nI a) (ha : a ≤ 9900) : undS T W - worS T (pre T W c 4 8 ^^^ (-1)) = plF T W c :=
  wor_und hW.1 hk (pre_ok hW hk ea ha 4 (Nat.le_refl _)).1
theorem plF_top {T : TT} {W : Nat → Int32} {c a : Nat} (hW : WT T) (hE : WE T) (hk : WOK T W) (ea : W 3 = nI a) (ha : a ≤ 9900) : plF T W c ≤ undS T W := by
  rw [← plF_und hW hk ea ha]; exact und_top hW.1 hE
theorem plF_nn {T : TT} {W : Nat → Int32} {c a : Nat} (hW : WT T) (hE : WE T) (hk : WOK T W) (ea : W 3 = nI a) (ha : a ≤ 9900) : 0 ≤ plF T W c := by
  have hn := nq_le hW.1
  obtain ⟨B, B', e1, e2, h1, h2⟩ := wor_mono hE (subW_pre (c := c) hW hk ea ha 4 (Nat.le_refl _)) (nq T 3) 0 0 0 (by omega) (by omega) (Nat.le_refl _) (by omega)
  have e : plF T W c = nI B' - nI B := by
    show worGo T (pre T W c 4 8) (nq T 3) 0 (nI 0) - worGo T (W 8) (nq T 3) 0 (nI 0) = _
    rw [e1, e2]
  rw [e, nI_subN h1]; exact nI_pos' (by omega)
def plGo (f : Nat → Int32) : Nat → Nat → Int32 × Nat → Int32 × Nat
  | 0, _, s => s
  | d + 1, k, s => plGo f d (k + 1) (if s.1 < f k then (f k, k) else s)
theorem plGo_add {f : Nat → Int32} : ∀ (m n k : Nat) (s : Int32 × Nat), plGo f (m + n) k s = plGo f n (k + m) (plGo f m k s)
  | 0, n, k, s => by rw [Nat.zero_add, Nat.add_zero]; rfl
  | m + 1, n, k, s => by
    rw [show m + 1 + n = (m + n) + 1 from by omega]
    show plGo f (m + n) (k + 1) _ = plGo f n (k + (m + 1)) (plGo f m (k + 1) _)
    rw [plGo_add m n (k + 1), show k + (m + 1) = k + 1 + m from by omega]
theorem plGo_done {f : Nat → Int32} {u : Int32} (hf : ∀ k, f k ≤ u) : ∀ (d k : Nat) (s : Int32 × Nat), u ≤ s.1 → plGo f d k s = s
  | 0, _, _, _ => rfl
  | d + 1, k, s, h => by
    show plGo f d (k + 1) (if s.1 < f k then (f k, k) else s) = s
    rw [if_neg (Int32.not_lt.mpr (Int32.le_trans (hf k) h)), plGo_done hf d (k + 1) s h]
theorem plGo_ge {f : Nat → Int32} : ∀ (d k : Nat) (s : Int32 × Nat), s.1 ≤ (plGo f d k s).1
  | 0, _, _ => Int32.le_refl _
  | d + 1, k, s => by
    show s.1 ≤ (plGo f d (k + 1) (if s.1 < f k then (f k, k) else s)).1
    refine Int32.le_trans ?_ (plGo_ge d (k + 1) _)
    split
    · rename_i h; exact Int32.le_of_lt h
    · exact Int32.le_refl _
