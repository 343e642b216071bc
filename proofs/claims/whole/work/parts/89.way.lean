/-! ===== the shortest way ===== -/
/-- the cell that a step leads to -/
def nxC (T : TT) (u w : Nat) : Option Nat := if (cellB T (nI (u / 8) + dnB (nI w)) (nI (u % 8) + rtB (nI w)) && !wallB T (nI (u / 8) + dnB (nI w)) (nI (u % 8) + rtB (nI w))) = true then some ((nI (u / 8) + dnB (nI w)) * 8 + (nI (u % 8) + rtB (nI w))).toNatClampNeg else none
def Rch (T : TT) (s : Nat) : Nat → Nat → Prop
  | 0, v => v = s
  | n + 1, v => ∃ u w, w < 4 ∧ Rch T s n u ∧ nxC T u w = some v
theorem nx_lt {T : TT} {u w v : Nat} (hD : WD T) (h : nxC T u w = some v) : v < 64 := by
  unfold nxC at h
  split at h
  · rename_i hc
    cases h
    have hc1 : cellB T (nI (u / 8) + dnB (nI w)) (nI (u % 8) + rtB (nI w)) = true := by
      cases hh : cellB T (nI (u / 8) + dnB (nI w)) (nI (u % 8) + rtB (nI w))
      · rw [hh] at hc; cases hc
      · rfl
    obtain ⟨i, j, hi, hj, e1, e2⟩ := cellB_idx hD hc1
    rw [e1, e2, idx8, nI_clamp (by omega)]; omega
  · cases h
theorem Rch_lt {T : TT} {s : Nat} (hD : WD T) (hs : s < 64) : ∀ n v, Rch T s n v → v < 64
  | 0, v, h => by rw [show v = s from h]; exact hs
  | n + 1, v, ⟨u, w, _, _, h⟩ => nx_lt hD h
/-- a table of the shortest ways -/
def Dst (T : TT) (s : Nat) (r : Nat → Option Nat) : Prop := (∀ v n, v < 64 → r v = some n → Rch T s n v) ∧ (∀ n v, Rch T s n v → ∃ m, m ≤ n ∧ r v = some m)
theorem Dst_uni {T : TT} {s : Nat} {r q : Nat → Option Nat} (hr : Dst T s r) (hq : Dst T s q) {v : Nat} (hv : v < 64) : r v = q v := by
  cases h1 : r v with
  | none =>
    cases h2 : q v with
    | none => rfl
    | some n =>
      obtain ⟨m, _, e⟩ := hr.2 n v (hq.1 v n hv h2)
      rw [h1] at e; cases e
  | some n =>
    obtain ⟨m, hm, e⟩ := hq.2 n v (hr.1 v n hv h1)
    obtain ⟨k, hk, e2⟩ := hr.2 m v (hq.1 v m hv e)
    rw [h1] at e2
    cases e2
    rw [e, show m = n from by omega]
/-! the class: cells in a queue -/
def vc (g : Nat → Int32) : Nat → Nat
  | 0 => 0
  | n + 1 => vc g n + (if g n = -1 then 0 else 1)
theorem vc_le (g : Nat → Int32) : ∀ n, vc g n ≤ n
  | 0 => Nat.le_refl _
  | n + 1 => by have := vc_le g n; unfold vc; split <;> omega
theorem vc_lt (g : Nat → Int32) {v : Nat} (h : g v = -1) : ∀ n, v < n → vc g n < n
  | n + 1, hv => by
    have := vc_le g n
    unfold vc
    by_cases c : v = n
    · subst c; rw [if_pos h]; omega
    · have := vc_lt g h n (by omega)
      split <;> omega
theorem vc_up (g : Nat → Int32) {v : Nat} {x : Int32} (h : g v = -1) (hx : ¬ x = -1) : ∀ n, vc (up g v x) n = vc g n + (if v < n then 1 else 0)
  | 0 => rfl
  | n + 1 => by
    have ih := vc_up g h hx n
    show vc (up g v x) n + (if up g v x n = -1 then 0 else 1) = vc g n + (if g n = -1 then 0 else 1) + (if v < n + 1 then 1 else 0)
    rw [ih]
    by_cases c : v = n
    · subst c
      rw [up_same, if_neg hx, if_pos h, if_neg (by omega), if_pos (by omega)]
    · rw [up_ne (fun e => c e.symm)]
      by_cases c2 : v < n
      · rw [if_pos c2, if_pos (show v < n + 1 by omega)]; omega
      · rw [if_neg c2, if_neg (show ¬ v < n + 1 by omega)]; omega
/-- n cells stand in the queue, i of them are done; Q: the queue, D: how far a cell is -/
def XB (T : TT) (s i n : Nat) (Q D : Nat → Nat) (S : MS) : Prop :=
  gI S 78 2 = nI n ∧ n ≤ 64 ∧ i ≤ n ∧ 1 ≤ n ∧ vc (gI S 79) 64 = n ∧ Q 0 = s ∧ D s = 0
  ∧ (∀ j, j < n → gI S 80 j = nI (Q j) ∧ Q j < 64 ∧ gI S 79 (Q j) = nI (D (Q j)) ∧ D (Q j) ≤ j ∧ Rch T s (D (Q j)) (Q j))
  ∧ (∀ a b, a ≤ b → b < n → D (Q a) ≤ D (Q b)) ∧ (∀ b, i < n → b < n → D (Q b) ≤ D (Q i) + 1)
  ∧ (∀ k, k < 64 → gI S 79 k ≠ -1 → ∃ j, j < n ∧ k = Q j)
/-- the steps from a cell are taken up to a way -/
def XW (T : TT) (n a w : Nat) (Q D : Nat → Nat) : Prop := ∀ x v, x < w → nxC T (Q a) x = some v → ∃ j, j < n ∧ v = Q j ∧ D v ≤ D (Q a) + 1
def PP (o j : Nat) : Prop := (o = 78 ∧ j = 2) ∨ o = 79 ∨ o = 80
theorem X_reach1 {t i n x : Nat} {T : TT} {s v : Nat} {Q D : Nat → Nat} {S : MS} (hD : WD T) (hR : RX t S) (h : XB T s i n Q D S) (hi : i < n) (hx : x < 4) (hn : nxC T (Q i) x = some v) (hv : v < 64) (hw : XW T n i x Q D) (ha : ∀ a, a < i → XW T n a 4 Q D) :
    ∃ S1 n1 Q1 D1, fX3_reach 78 (nI v) (nI (D (Q i)) + 1) S = some S1 ∧ XB T s i n1 Q1 D1 S1 ∧ i < n1 ∧ Q1 i = Q i ∧ D1 (Q i) = D (Q i) ∧ XW T n1 i (x + 1) Q1 D1 ∧ (∀ a, a < i → XW T n1 a 4 Q1 D1) ∧ Fr PP S S1 := by
  obtain ⟨b1, b2, b3, b4, b5, b6, b7, b8, b9, b10, b11⟩ := h
  have bv : bnd (nI v) 64 = true := bnd_nI hv (by decide)
  have cv : (nI v).toNatClampNeg = v := nI_clamp (by omega)
  unfold fX3_reach fX3_reach_46
  rw [if_neg (nI_pos (by omega)), if_neg (show ¬ (64 : Int32) ≤ nI v from nle (n := 64) (by decide) hv), rx_78_0 hR, lx_79, bv, if_pos rfl, cv]
  by_cases c : gI S 79 v = -1
  · -- a new one
    have hlt : n < 64 := by have := vc_lt (gI S 79) c 64 hv; omega
    have hvQ : ∀ j, j < n → Q j ≠ v := fun j hj e => by
      have := (b8 j hj).2.2.1
      rw [e, c] at this
      exact nI_neg (m := D v) (by have := (b8 j hj).2.2.2.1; rw [e] at this; omega) this.symm
    have hdi := (b8 i hi).2.2.2.1
    rw [if_pos c, b1, if_neg (show ¬ (64 : Int32) ≤ nI n from nle (n := 64) (by decide) hlt), if_pos rfl]
    simp only [gR_pI, gI_neo (show (78 : Nat) ≠ 79 by decide), gI_neo (show (78 : Nat) ≠ 80 by decide), b1, rx_78_1 hR, lx_80, bnd_nI hlt (by decide), if_true, nI_clamp (show n < 2 ^ 31 by omega), nI_1]
    refine ⟨_, n + 1, fun j => if j = n then v else Q j, fun k => if k = v then D (Q i) + 1 else D k, rfl, ?_, by omega, ?_, ?_, ?_, ?_, ?_⟩
    · have hQ : ∀ j, j < n → (if j = n then v else Q j) = Q j := fun j hj => if_neg (by omega)
      have hDn : ∀ j, j < n → (if Q j = v then D (Q i) + 1 else D (Q j)) = D (Q j) := fun j hj => if_neg (hvQ j hj)
      have hsv : s ≠ v := by rw [← b6]; exact hvQ 0 (by omega)
      refine ⟨gI_same, by omega, by omega, by omega, ?_, ?_, ?_, ?_, ?_, ?_, ?_⟩
      · have e : gI (pI (pI (pI S 79 v (nI (D (Q i) + 1))) 80 n (nI v)) 78 2 (nI (n + 1))) 79 = up (gI S 79) v (nI (D (Q i) + 1)) := by
          funext k
          rw [gI_neo (by decide), gI_neo (by decide)]
          unfold up
          by_cases hk : k = v
          · subst hk; rw [gI_same, if_pos rfl]
          · rw [gI_nek hk, if_neg hk]
        rw [e, vc_up _ c (nI_neg (by omega)), if_pos hv, b5]
      · show (if 0 = n then v else Q 0) = s; rw [hQ 0 (by omega)]; exact b6
      · show (if s = v then _ else D s) = 0; rw [if_neg hsv]; exact b7
      · intro j hj
        by_cases hjn : j = n
        · subst hjn
          simp only [if_true]
          refine ⟨?_, hv, ?_, by omega, ⟨Q i, x, hx, (b8 i hi).2.2.2.2, hn⟩⟩
          · rw [gI_neo (by decide), gI_same]
          · rw [gI_neo (by decide), gI_neo (by decide), gI_same]
        · have hj' : j < n := by omega
          simp only [hjn, if_false, hDn j hj']
          obtain ⟨c1, c2, c3, c4, c5⟩ := b8 j hj'
          refine ⟨?_, c2, ?_, c4, c5⟩
          · rw [gI_neo (by decide), gI_nek hjn, gI_neo (by decide)]; exact c1
          · rw [gI_neo (by decide), gI_neo (by decide), gI_nek (hvQ j hj')]; exact c3
      · intro a b hab hb
        by_cases hbn : b = n
        · subst hbn
          simp only [if_true]
          by_cases han : a = b
          · simp only [han, if_true]; exact Nat.le_refl _
          · simp only [han, if_false, hDn a (by omega)]; exact b10 a hi (by omega)
        · simp only [hbn, show ¬ a = n by omega, if_false, hDn a (by omega), hDn b (by omega)]; exact b9 a b hab (by omega)
      · intro b _ hb
        simp only [show ¬ i = n by omega, if_false, hDn i hi]
        by_cases hbn : b = n
        · subst hbn; simp only [if_true]; exact Nat.le_refl _
        · simp only [hbn, if_false, hDn b (by omega)]; exact b10 b hi (by omega)
      · intro k hk hne
        by_cases hkv : k = v
        · exact ⟨n, by omega, by simp only [if_true]; exact hkv⟩
        · rw [gI_neo (by decide), gI_neo (by decide), gI_nek hkv] at hne
          obtain ⟨j, hj, e⟩ := b11 k hk hne
          exact ⟨j, by omega, by simp only [show ¬ j = n by omega, if_false]; exact e⟩
    · show (if i = n then v else Q i) = Q i; rw [if_neg (by omega)]
    · show (if Q i = v then _ else D (Q i)) = D (Q i); rw [if_neg (hvQ i hi)]
    · intro y u hy hu
      simp only [show ¬ i = n by omega, if_false] at hu ⊢
      rw [if_neg (hvQ i hi)]
      by_cases hyx : y = x
      · subst hyx
        rw [hn] at hu
        cases hu
        exact ⟨n, by omega, by simp, by simp⟩
      · obtain ⟨j, hj, e1, e2⟩ := hw y u (by omega) hu
        refine ⟨j, by omega, by simp only [show ¬ j = n by omega, if_false]; exact e1, ?_⟩
        rw [if_neg (by rw [e1]; exact hvQ j hj)]; exact e2
    · intro a hai y u hy hu
      simp only [show ¬ a = n by omega, if_false] at hu ⊢
      rw [if_neg (hvQ a (by omega))]
      obtain ⟨j, hj, e1, e2⟩ := ha a hai y u hy hu
      refine ⟨j, by omega, by simp only [show ¬ j = n by omega, if_false]; exact e1, ?_⟩
      rw [if_neg (by rw [e1]; exact hvQ j hj)]; exact e2
    · exact ((Fr.rf.pI (Or.inr (Or.inl rfl))).pI (Or.inr (Or.inr rfl))).pI (Or.inl ⟨rfl, rfl⟩)
  · -- one that stands already
    rw [if_neg c]
    refine ⟨S, n, Q, D, rfl, ⟨b1, b2, b3, b4, b5, b6, b7, b8, b9, b10, b11⟩, hi, rfl, rfl, ?_, ha, Fr.rf⟩
    intro y u hy hu
    by_cases hyx : y = x
    · subst hyx
      rw [hn] at hu
      cases hu
      obtain ⟨j, hj, e⟩ := b11 v hv c
      exact ⟨j, hj, e, by rw [e]; exact b10 j hi hj⟩
    · exact hw y u (by omega) hu
theorem PP_c : ∀ o j, PP o j → cX o j := fun o j h => by unfold PP at h; unfold cX; omega
theorem X_ways_go {t i : Nat} {T : TT} {s : Nat} {tgt : Int32} {K : Nat → Nat → Int32 → Int32 → MS → Option (Int32 × MS)} {S0 : MS} (hW : WT T) : ∀ (d x fuel n : Nat) (Q D : Nat → Nat) (S : MS), 4 = x + d → d < fuel → XO t S → tX S t = T → Fr PP S0 S → XB T s i n Q D S → i < n → XW T n i x Q D → (∀ a, a < i → XW T n a 4 Q D) →
    ∃ S1 n1 Q1 D1, fX3_fewest_81 K fuel 78 t tgt (nI i) (nI (Q i / 8)) (nI (Q i % 8)) (nI x) S = K 78 t tgt (nI (i + 1)) S1 ∧ XO t S1 ∧ tX S1 t = T ∧ Fr PP S0 S1 ∧ XB T s i n1 Q1 D1 S1 ∧ i < n1 ∧ (∀ a, a < i + 1 → XW T n1 a 4 Q1 D1) := by
  intro d
  induction d with
  | zero =>
    intro x fuel n Q D S e1 e2 hX et hf hb hi hw ha
    obtain ⟨f, rfl⟩ : ∃ f, fuel = f + 1 := ⟨fuel - 1, by omega⟩
    have hx : x = 4 := by omega
    subst hx
    refine ⟨S, n, Q, D, ?_, hX, et, hf, hb, hi, fun a haa => ?_⟩
    · unfold fX3_fewest_81
      rw [if_pos (by decide), nI_1]
    · by_cases hai : a = i
      · rw [hai]; exact hw
      · exact ha a (by omega)
  | succ d ih =>
    intro x fuel n Q D S e1 e2 hX et hf hb hi hw ha
    obtain ⟨f, rfl⟩ : ∃ f, fuel = f + 1 := ⟨fuel - 1, by omega⟩
    have hD := hW.2.2.2.1
    have hbi := hb.2.2.2.2.2.2.2.1 i hi
    have h64 := hb.2.1
    unfold fX3_fewest_81 fX3_fewest_155
    rw [if_neg (nle4 (by omega)), X_dn, Option.bind_some, X_rt, Option.bind_some, X_isCell, Option.bind_some, et, nI_1]
    have wall := X_isWall (r := nI (Q i / 8) + dnB (nI x)) (c := nI (Q i % 8) + rtB (nI x)) hX.1 hX.1.1 (by rw [et]; exact hD)
    rw [et] at wall
    have skip : nxC T (Q i) x = none → ∃ S1 n1 Q1 D1, fX3_fewest_81 K f 78 t tgt (nI i) (nI (Q i / 8)) (nI (Q i % 8)) (nI (x + 1)) S = K 78 t tgt (nI (i + 1)) S1 ∧ XO t S1 ∧ tX S1 t = T ∧ Fr PP S0 S1 ∧ XB T s i n1 Q1 D1 S1 ∧ i < n1 ∧ (∀ a, a < i + 1 → XW T n1 a 4 Q1 D1) := fun hno =>
      ih (x + 1) f n Q D S (by omega) (by omega) hX et hf hb hi (fun y u hy hu => by
        by_cases hyx : y = x
        · subst hyx; rw [hno] at hu; cases hu
        · exact hw y u (by omega) hu) ha
    cases hc : cellB T (nI (Q i / 8) + dnB (nI x)) (nI (Q i % 8) + rtB (nI x)) with
    | false => rw [if_pos b2i_f]; exact skip (by unfold nxC; rw [hc]; rfl)
    | true =>
      rw [hc, Bool.true_and] at wall
      rw [if_neg b2i_t, wall, Option.bind_some]
      cases hwb : wallB T (nI (Q i / 8) + dnB (nI x)) (nI (Q i % 8) + rtB (nI x)) with
      | true => rw [if_neg b2i_t]; exact skip (by unfold nxC; rw [hc, hwb]; rfl)
      | false =>
        rw [if_pos b2i_f]
        obtain ⟨p, q, hp, hq, ep, eq⟩ := cellB_idx hD hc
        have hn : nxC T (Q i) x = some (p * 8 + q) := by
          unfold nxC; rw [hc, hwb, ep, eq, idx8, nI_clamp (by omega)]; rfl
        obtain ⟨S1, n1, Q1, D1, r1, r2, r3, r4, r5, r6, r7, r8⟩ := X_reach1 hD hX.1 hb hi (by omega) hn (by omega) hw ha
        rw [rx_78_0 hX.1, rx_78_1 hX.1, lx_79, lx_80, bnd_nI (show i < 64 by omega) (by decide), if_pos rfl, nI_clamp (by omega), hbi.1, bnd_nI hbi.2.1 (by decide), if_pos rfl, nI_clamp (by omega), hbi.2.2.1, ep, eq, idx8, r1, Option.bind_some]
        obtain ⟨g1, g2⟩ := hX.gen r8 PP_c
        have := ih (x + 1) f n1 Q1 D1 S1 (by omega) (by omega) g1 (g2.trans et) (hf.tr r8) r2 r3 r6 r7
        rw [r4] at this
        exact this
/-- a table out of the queue -/
theorem XB_dst {T : TT} {s n : Nat} {Q D : Nat → Nat} {S : MS} (hD : WD T) (hs : s < 64) (h : XB T s n n Q D S) (ha : ∀ a, a < n → XW T n a 4 Q D) : Dst T s (fun v => if gI S 79 v = -1 then none else some (D v)) ∧ (∀ v, v < 64 → gI S 79 v ≠ -1 → gI S 79 v = nI (D v) ∧ D v < 64) := by
  obtain ⟨b1, b2, b3, b4, b5, b6, b7, b8, b9, b10, b11⟩ := h
  have val : ∀ v, v < 64 → gI S 79 v ≠ -1 → gI S 79 v = nI (D v) ∧ D v < 64 ∧ Rch T s (D v) v := fun v hv hne => by
    obtain ⟨j, hj, e⟩ := b11 v hv hne
    obtain ⟨c1, c2, c3, c4, c5⟩ := b8 j hj
    rw [e]; exact ⟨c3, by omega, c5⟩
  have there : ∀ j, j < n → gI S 79 (Q j) ≠ -1 := fun j hj e => by
    obtain ⟨c1, c2, c3, c4, c5⟩ := b8 j hj
    rw [c3] at e; exact nI_neg (by omega) e
  refine ⟨⟨fun v k hv hr => ?_, fun k => ?_⟩, fun v hv hne => ⟨(val v hv hne).1, (val v hv hne).2.1⟩⟩
  · by_cases c : gI S 79 v = -1
    · simp only [c, if_true] at hr; cases hr
    · simp only [c, if_false] at hr
      cases hr
      exact (val v hv c).2.2
  · induction k with
    | zero =>
      intro v hv
      have hv : v = s := hv
      subst hv
      refine ⟨0, Nat.le_refl _, ?_⟩
      have := there 0 (by omega)
      rw [b6] at this
      simp only [this, if_false, b7]
    | succ k ih =>
      rintro v ⟨u, w, hw, hu, hn⟩
      obtain ⟨m, hm, e⟩ := ih u hu
      by_cases c : gI S 79 u = -1
      · simp only [c, if_true] at e; cases e
      · simp only [c, if_false] at e
        cases e
        obtain ⟨a, haa, ea⟩ := b11 u (Rch_lt hD hs k u hu) c
        rw [ea] at hn hm
        obtain ⟨j, hj, e1, e2⟩ := ha a haa w v hw hn
        have := there j hj
        rw [← e1] at this
        exact ⟨D v, by omega, by simp only [this, if_false]⟩
theorem X_bfs_go {t : Nat} {T : TT} {s : Nat} {tgt : Int32} {S0 : MS} (hW : WT T) (hs : s < 64) : ∀ (d i fuel n : Nat) (Q D : Nat → Nat) (S : MS), 64 = i + d → d < fuel → XO t S → tX S t = T → Fr PP S0 S → XB T s i n Q D S → (∀ a, a < i → XW T n a 4 Q D) →
    ∃ S1 n1 Q1 D1, fX3_fewest_38 fuel 78 t tgt (nI i) S = fX3_fewest_167 78 tgt S1 ∧ RX t S1 ∧ Fr PP S0 S1 ∧ XB T s n1 n1 Q1 D1 S1 ∧ (∀ a, a < n1 → XW T n1 a 4 Q1 D1) := by
  intro d
  induction d with
  | zero =>
    intro i fuel n Q D S e1 e2 hX et hf hb ha
    obtain ⟨f, rfl⟩ : ∃ f, fuel = f + 1 := ⟨fuel - 1, by omega⟩
    have hin : n = i := by have := hb.2.1; have := hb.2.2.1; omega
    refine ⟨S, n, Q, D, ?_, hX.1, hf, by rw [← hin] at hb; exact hb, by rw [← hin] at ha; exact ha⟩
    unfold fX3_fewest_38
    rw [show i = 64 from by omega, if_pos (by decide)]
  | succ d ih =>
    intro i fuel n Q D S e1 e2 hX et hf hb ha
    obtain ⟨f, rfl⟩ : ∃ f, fuel = f + 1 := ⟨fuel - 1, by omega⟩
    have h64 := hb.2.1
    have hin := hb.2.2.1
    unfold fX3_fewest_38
    rw [if_neg (show ¬ (64 : Int32) ≤ nI i from nle (n := 64) (by decide) (by omega)), hb.1]
    by_cases c : n = i
    · rw [if_pos (by rw [c]; exact Int32.le_refl _)]
      exact ⟨S, n, Q, D, rfl, hX.1, hf, by rw [← c] at hb; exact hb, by rw [← c] at ha; exact ha⟩
    · have hi : i < n := by omega
      have hbi := hb.2.2.2.2.2.2.2.1 i hi
      obtain ⟨m1, m2⟩ := nI_mod8 (k := Q i) (by omega)
      rw [if_neg (nle (by omega) hi), rx_78_1 hX.1, lx_80, bnd_nI (show i < 64 by omega) (by decide), if_pos rfl, if_pos rfl, nI_clamp (by omega), hbi.1, m2, m1]
      obtain ⟨S1, n1, Q1, D1, r1, r2, r3, r4, r5, r6, r7⟩ := X_ways_go (K := fX3_fewest_38 f) (tgt := tgt) (S0 := S0) hW 4 0 1000 n Q D S rfl (by decide) hX et hf hb hi (fun y u hy _ => by omega) ha
      have r1' : fX3_fewest_81 (fX3_fewest_38 f) 1000 78 t tgt (nI i) (nI (Q i / 8)) (nI (Q i % 8)) (0 : Int32) S = _ := r1
      rw [r1']
      have hb1 : XB T s (i + 1) n1 Q1 D1 S1 := by
        obtain ⟨b1, b2, b3, b4, b5, b6, b7, b8, b9, b10, b11⟩ := r5
        refine ⟨b1, b2, by omega, b4, b5, b6, b7, b8, b9, fun b h1 h2 => ?_, b11⟩
        have := b10 b r6 h2
        have := b9 i (i + 1) (by omega) h1
        omega
      exact ih (i + 1) f n1 Q1 D1 S1 (by omega) (by omega) r2 r3 r4 hb1 r7
theorem X_clr_go {t : Nat} {x2 x3 : Int32} {S0 : MS} : ∀ (d i fuel : Nat) (S : MS), 64 = i + d → d < fuel → RX t S → Fr PP S0 S → (∀ k, k < i → gI S 79 k = -1) →
    ∃ S1, fX3_fewest_3 fuel 78 t x2 x3 (nI i) S = ((fX3_reach 78 x2 (0 : Int32) (pI S1 78 2 (0 : Int32))).bind fun q29 => fX3_fewest_38 1000 78 t x3 (0 : Int32) q29) ∧ Fr PP S0 S1 ∧ (∀ k, k < 64 → gI S1 79 k = -1) := by
  intro d
  induction d with
  | zero =>
    intro i fuel S e1 e2 h hf h1
    obtain ⟨f, rfl⟩ : ∃ f, fuel = f + 1 := ⟨fuel - 1, by omega⟩
    refine ⟨S, ?_, hf, fun k hk => h1 k (by omega)⟩
    unfold fX3_fewest_3
    rw [show i = 64 from by omega, if_pos (by decide)]
  | succ d ih =>
    intro i fuel S e1 e2 h hf h1
    obtain ⟨f, rfl⟩ : ∃ f, fuel = f + 1 := ⟨fuel - 1, by omega⟩
    unfold fX3_fewest_3
    rw [if_neg (show ¬ (64 : Int32) ≤ nI i from nle (n := 64) (by decide) (by omega)), rx_78_0 h, lx_79, bnd_nI (show i < 64 by omega) (by decide), if_pos rfl, nI_clamp (by omega), nI_1]
    refine ih (i + 1) f _ (by omega) (by omega) (h.of rfl) (hf.pI (Or.inr (Or.inl rfl))) (fun k hk => ?_)
    by_cases hki : k = i
    · subst hki; exact gI_same
    · rw [gI_nek hki]; exact h1 k (by omega)
theorem vc_0 {g : Nat → Int32} : ∀ n, (∀ k, k < n → g k = -1) → vc g n = 0
  | 0, _ => rfl
  | n + 1, h => by
    unfold vc
    rw [vc_0 n (fun k hk => h k (by omega)), h n (by omega)]; rfl
theorem X_fewest {t s v : Nat} {T : TT} {S : MS} (hW : WT T) (hX : XO t S) (et : tX S t = T) (hs : s < 64) (hv : v < 64) :
    ∃ S1 r, fX3_fewest 78 t (nI s) (nI v) S = some ((match r v with | some n => nI n | none => -1), S1) ∧ Dst T s r ∧ (∀ k n, k < 64 → r k = some n → n < 64) ∧ Fr PP S S1 := by
  have hD := hW.2.2.2.1
  obtain ⟨S1, a1, a2, a3⟩ := X_clr_go (t := t) (x2 := nI s) (x3 := nI v) (S0 := S) 64 0 1000 S rfl (by decide) hX.1 Fr.rf (fun k hk => by omega)
  have hR1 := hX.1.of a2.1
  have bs : bnd (nI s) 64 = true := bnd_nI hs (by decide)
  have cs : (nI s).toNatClampNeg = s := nI_clamp (by omega)
  have er : fX3_reach 78 (nI s) (0 : Int32) (pI S1 78 2 (0 : Int32)) = some (pI (pI (pI (pI S1 78 2 0) 79 s 0) 80 0 (nI s)) 78 2 1) := by
    unfold fX3_reach fX3_reach_46
    simp only [nI_pos (show s < 2 ^ 31 by omega), if_false, show ¬ (64 : Int32) ≤ nI s from nle (n := 64) (by decide) hs, gR_pI, rx_78_0 hR1, rx_78_1 hR1, lx_79, lx_80, bs, cs, if_true, gI_neo (show (79 : Nat) ≠ 78 by decide), a3 s hs, gI_same, show ¬ (64 : Int32) ≤ 0 by decide, gI_neo (show (78 : Nat) ≠ 79 by decide), gI_neo (show (78 : Nat) ≠ 80 by decide), show bnd (0 : Int32) 64 = true from rfl, show (0 : Int32).toNatClampNeg = 0 from rfl]
    rfl
  have f1 : Fr PP S (pI (pI (pI (pI S1 78 2 0) 79 s 0) 80 0 (nI s)) 78 2 1) := (((a2.pI (Or.inl ⟨rfl, rfl⟩)).pI (Or.inr (Or.inl rfl))).pI (Or.inr (Or.inr rfl))).pI (Or.inl ⟨rfl, rfl⟩)
  have e79 : gI (pI (pI (pI (pI S1 78 2 0) 79 s 0) 80 0 (nI s)) 78 2 1) 79 = up (gI S1 79) s 0 := by
    funext k
    rw [gI_neo (by decide), gI_neo (by decide)]
    unfold up
    by_cases hk : k = s
    · subst hk; rw [gI_same, if_pos rfl]
    · rw [gI_nek hk, if_neg hk, gI_neo (by decide)]
  have hb : XB T s 0 1 (fun _ => s) (fun _ => 0) (pI (pI (pI (pI S1 78 2 0) 79 s 0) 80 0 (nI s)) 78 2 1) := by
    refine ⟨gI_same, by decide, by decide, by decide, ?_, rfl, rfl, fun j hj => ⟨?_, hs, ?_, Nat.zero_le _, rfl⟩, fun _ _ _ _ => Nat.le_refl _, fun _ _ _ => Nat.zero_le _, fun k hk hne => ⟨0, by decide, ?_⟩⟩
    · rw [e79, vc_up _ (a3 s hs) (by decide), if_pos hs, vc_0 64 a3]
    · have : j = 0 := by omega
      subst this
      rw [gI_neo (by decide), gI_same]
    · rw [e79, up_same]; rfl
    · rw [e79] at hne
      by_cases hks : k = s
      · exact hks
      · rw [up_ne hks] at hne; exact absurd (a3 k hk) hne
  obtain ⟨g1, g2⟩ := hX.gen f1 PP_c
  obtain ⟨S2, n1, Q1, D1, r1, r2, r3, r4, r5⟩ := X_bfs_go (tgt := nI v) (S0 := S) hW hs 64 0 1000 1 _ _ _ rfl (by decide) g1 (g2.trans et) f1 hb (fun a ha => by omega)
  have r1' : fX3_fewest_38 1000 78 t (nI v) (0 : Int32) _ = _ := r1
  obtain ⟨d1, d2⟩ := XB_dst hD hs r4 r5
  refine ⟨S2, _, ?_, d1, fun k n hk hr => ?_, r3⟩
  · have a1' : fX3_fewest_3 1000 78 t (nI s) (nI v) (0 : Int32) S = _ := a1
    unfold fX3_fewest
    rw [a1', er, Option.bind_some, r1']
    unfold fX3_fewest_167
    rw [if_neg (nI_pos (by omega)), if_neg (show ¬ (64 : Int32) ≤ nI v from nle (n := 64) (by decide) hv), rx_78_0 r2, lx_79, bnd_nI hv (by decide), if_pos rfl, nI_clamp (by omega)]
    by_cases c : gI S2 79 v = -1
    · simp only [c, if_true]
    · simp only [c, if_false]
      rw [(d2 v hv c).1]
  · by_cases c : gI S2 79 k = -1
    · simp only [c, if_true] at hr; cases hr
    · simp only [c, if_false] at hr
      cases hr
      exact (d2 k hk c).2
