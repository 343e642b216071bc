/-! ===== the shortest way, as the reference finds it ===== -/
def upN (F : Nat → Nat) (k v : Nat) : Nat → Nat := fun j => if j = k then v else F j
/-- one step tried from a cell: the new row, whether it is nearer -/
def rl (T : TT) (u w : Nat) (F : Nat → Nat) : (Nat → Nat) × Bool :=
  match nxC T u w with
  | some v => if F u + 1 < F v then (upN F v (F u + 1), true) else (F, false)
  | none => (F, false)
def rlW (T : TT) (u : Nat) : Nat → Nat → (Nat → Nat) × Bool → (Nat → Nat) × Bool
  | 0, _, p => p
  | d + 1, w, p => if p.1 u < 999 then rlW T u d (w + 1) ((rl T u w p.1).1, p.2 || (rl T u w p.1).2) else p
def rlA (T : TT) : Nat → Nat → (Nat → Nat) × Bool → (Nat → Nat) × Bool
  | 0, _, p => p
  | d + 1, u, p => rlA T d (u + 1) (rlW T u 4 0 p)
def VF (F : Nat → Nat) (S : MS) : Prop := ∀ k, k < 64 → gI S 39 k = nI (F k) ∧ F k ≤ 999
def P39 (o j : Nat) : Prop := o = 39
theorem P39_Q : ∀ o j, P39 o j → QM o j := fun o j (h : o = 39) => by unfold QM; omega
theorem P39_t : ∀ o j, 2 ≤ o → o < 25 → ¬ P39 o j := fun o j a b (h : o = 39) => by omega
theorem P39_w : ∀ o j, 27 ≤ o → o < 39 → ¬ P39 o j := fun o j a b (h : o = 39) => by omega
theorem MO.f39 {S S1 : MS} (h : MO S) (f : Fr P39 S S1) : MO S1 := h.of f.1 (fun o j a b => f.2 _ _ (P39_t o j a b))
theorem M_near {T : TT} {S : MS} {u w : Nat} {F : Nat → Nat} (hD : WD T) (h : MO S) (et : tM S = T) (hF : VF F S) (hu : u < 64) (hw : w < 4) :
    ∃ S1, fX11_isNearer 0 (nI u) (nI w) S = some (b2i (rl T u w F).2, S1) ∧ VF (rl T u w F).1 S1 ∧ Fr P39 S S1 := by
  obtain ⟨m1, m2⟩ := nI_mod8 (k := u) (by omega)
  unfold fX11_isNearer fX11_isNearer_86
  rw [M_dn, Option.bind_some, M_rt, Option.bind_some, m2, m1, M_isCell h.1, Option.bind_some, et]
  have no : nxC T u w = none → rl T u w F = (F, false) := fun e => by unfold rl; rw [e]
  cases hc : cellB T (nI (u / 8) + dnB (nI w)) (nI (u % 8) + rtB (nI w)) with
  | false =>
    rw [if_pos b2i_f, no (by unfold nxC; rw [hc]; rfl)]
    exact ⟨S, rfl, hF, Fr.rf⟩
  | true =>
    have wall := M_isWall (r := nI (u / 8) + dnB (nI w)) (c := nI (u % 8) + rtB (nI w)) h.1 (by rw [et]; exact hD) h.2.2 (by rw [et]; exact hc)
    rw [et] at wall
    rw [if_neg b2i_t, wall, Option.bind_some]
    cases hwb : wallB T (nI (u / 8) + dnB (nI w)) (nI (u % 8) + rtB (nI w)) with
    | true =>
      rw [if_neg b2i_t, no (by unfold nxC; rw [hc, hwb]; rfl)]
      exact ⟨S, rfl, hF, Fr.rf⟩
    | false =>
      obtain ⟨p, q, hp, hq, ep, eq⟩ := cellB_idx hD hc
      have hn : nxC T u w = some (p * 8 + q) := by
        unfold nxC; rw [hc, hwb, ep, eq, idx8, nI_clamp (by omega)]; rfl
      have hv : p * 8 + q < 64 := by omega
      obtain ⟨u1, u2⟩ := hF u hu
      obtain ⟨v1, v2⟩ := hF _ hv
      rw [if_pos b2i_f, mr_62 h.1, lm_39, bnd_nI hu (by decide), if_pos rfl, ep, eq, idx8', bnd_nI hv (by decide), if_pos rfl, nI_clamp (show u < 2 ^ 31 by omega), nI_clamp (show p * 8 + q < 2 ^ 31 by omega), u1, v1, nI_1]
      have er : rl T u w F = if F u + 1 < F (p * 8 + q) then (upN F (p * 8 + q) (F u + 1), true) else (F, false) := by unfold rl; rw [hn]
      rw [er]
      by_cases c : F u + 1 < F (p * 8 + q)
      · rw [if_pos (nI_lt c (by omega)), if_pos c, if_pos rfl, if_pos rfl]
        refine ⟨_, rfl, fun k hk => ?_, Fr.rf.pI rfl⟩
        show gI _ 39 k = nI (upN F (p * 8 + q) (F u + 1) k) ∧ upN F (p * 8 + q) (F u + 1) k ≤ 999
        unfold upN
        by_cases hkv : k = p * 8 + q
        · subst hkv; rw [gI_same, if_pos rfl]; exact ⟨rfl, by omega⟩
        · rw [gI_nek hkv, if_neg hkv]; exact hF k hk
      · rw [if_neg (by rw [nI_ltI (by omega) (by omega)]; exact c), if_neg c]
        exact ⟨S, rfl, hF, Fr.rf⟩
theorem or_b {a b : Bool} : b2i a ||| b2i b = b2i (a || b) := by cases a <;> cases b <;> decide
theorem rl_up {T : TT} {u w k : Nat} {F : Nat → Nat} : (rl T u w F).1 k ≤ F k := by
  unfold rl
  split
  · split
    · show upN F _ _ k ≤ F k
      unfold upN
      split
      · rename_i h1 h2 h3; subst h3; exact Nat.le_of_lt h2
      · exact Nat.le_refl _
    · exact Nat.le_refl _
  · exact Nat.le_refl _
theorem M_rlW_go {T : TT} {x1 x2 : Int32} {K63 : Nat → Int32 → Int32 → Int32 → MS → Option (Int32 × MS)} {K72 : Nat → Int32 → Int32 → Int32 → Int32 → MS → Option (Int32 × MS)} {u : Nat} {S0 : MS} (hD : WD T) (hu : u < 64) : ∀ (d w fuel : Nat) (p : (Nat → Nat) × Bool) (S : MS), 4 = w + d → d < fuel → MO S → tM S = T → VF p.1 S → Fr P39 S0 S →
    ∃ S1, fX11_way_82 K63 K72 fuel 0 x1 x2 (b2i p.2) (nI u) (nI w) S = K72 0 x1 x2 (b2i (rlW T u d w p).2) (nI (u + 1)) S1 ∧ MO S1 ∧ tM S1 = T ∧ VF (rlW T u d w p).1 S1 ∧ Fr P39 S0 S1 := by
  intro d
  induction d with
  | zero =>
    intro w fuel p S e1 e2 h et hF hf
    obtain ⟨f, rfl⟩ : ∃ f, fuel = f + 1 := ⟨fuel - 1, by omega⟩
    refine ⟨S, ?_, h, et, hF, hf⟩
    unfold fX11_way_82 fX11_way_118
    rw [show w = 4 from by omega, if_pos (by decide), nI_1]; rfl
  | succ d ih =>
    intro w fuel p S e1 e2 h et hF hf
    obtain ⟨f, rfl⟩ : ∃ f, fuel = f + 1 := ⟨fuel - 1, by omega⟩
    obtain ⟨u1, u2⟩ := hF u hu
    unfold fX11_way_82 fX11_way_118
    rw [if_neg (nle4 (by omega)), mr_62 h.1, lm_39, bnd_nI hu (by decide), if_pos rfl, nI_clamp (by omega), u1]
    show ∃ S1, _ = K72 0 x1 x2 (b2i (if p.1 u < 999 then rlW T u d (w + 1) ((rl T u w p.1).1, p.2 || (rl T u w p.1).2) else p).2) (nI (u + 1)) S1 ∧ _ ∧ _ ∧ VF (if p.1 u < 999 then rlW T u d (w + 1) ((rl T u w p.1).1, p.2 || (rl T u w p.1).2) else p).1 S1 ∧ _
    by_cases c : p.1 u < 999
    · rw [if_neg (show ¬ (999 : Int32) ≤ nI (p.1 u) from nle (n := 999) (by decide) c), if_pos c]
      obtain ⟨S1, q1, q2, q3⟩ := M_near hD h et hF hu (show w < 4 by omega)
      rw [q1, Option.bind_some, or_b, nI_1]
      exact ih (w + 1) f ((rl T u w p.1).1, p.2 || (rl T u w p.1).2) S1 (by omega) (by omega) (h.f39 q3) ((Fr.toldM q3 P39_t).trans et) q2 (hf.tr q3)
    · rw [if_pos (show (999 : Int32) ≤ nI (p.1 u) from (nI_leI (a := 999) (by decide) (by omega)).mpr (by omega)), if_neg c, nI_1]
      exact ⟨S, rfl, h, et, hF, hf⟩
theorem M_rlA_go {T : TT} {x1 x2 : Int32} {K63 : Nat → Int32 → Int32 → Int32 → MS → Option (Int32 × MS)} {S0 : MS} (hD : WD T) : ∀ (d u fuel : Nat) (p : (Nat → Nat) × Bool) (S : MS), 64 = u + d → d < fuel → MO S → tM S = T → VF p.1 S → Fr P39 S0 S →
    ∃ S1, fX11_way_72 K63 fuel 0 x1 x2 (b2i p.2) (nI u) S = K63 0 x1 x2 (b2i (rlA T d u p).2) S1 ∧ MO S1 ∧ tM S1 = T ∧ VF (rlA T d u p).1 S1 ∧ Fr P39 S0 S1 := by
  intro d
  induction d with
  | zero =>
    intro u fuel p S e1 e2 h et hF hf
    obtain ⟨f, rfl⟩ : ∃ f, fuel = f + 1 := ⟨fuel - 1, by omega⟩
    refine ⟨S, ?_, h, et, hF, hf⟩
    unfold fX11_way_72
    rw [show u = 64 from by omega, if_pos (by decide)]; rfl
  | succ d ih =>
    intro u fuel p S e1 e2 h et hF hf
    obtain ⟨f, rfl⟩ : ∃ f, fuel = f + 1 := ⟨fuel - 1, by omega⟩
    obtain ⟨S1, q1, q2, q3, q4, q5⟩ := M_rlW_go (K63 := K63) (K72 := fX11_way_72 K63 f) (x1 := x1) (x2 := x2) (S0 := S0) hD (show u < 64 by omega) 4 0 1000 p S rfl (by decide) h et hF hf
    have q1' : fX11_way_82 K63 (fX11_way_72 K63 f) 1000 0 x1 x2 (b2i p.2) (nI u) (0 : Int32) S = _ := q1
    unfold fX11_way_72
    rw [if_neg (show ¬ (64 : Int32) ≤ nI u from nle (n := 64) (by decide) (by omega)), q1']
    exact ih (u + 1) f (rlW T u 4 0 p) S1 (by omega) (by omega) q2 q3 q4 q5
/-! what a round of it does -/
def snd (T : TT) (s : Nat) (F : Nat → Nat) : Prop := ∀ k, F k < 999 → Rch T s (F k) k
theorem rl_snd {T : TT} {s u w : Nat} {F : Nat → Nat} (hw : w < 4) (hu : F u < 999) (h : snd T s F) (h9 : ∀ k, F k ≤ 999) : snd T s (rl T u w F).1 := by
  unfold rl
  split
  · rename_i v hn
    split
    · rename_i hlt
      intro k hk
      show Rch T s (upN F v (F u + 1) k) k
      unfold upN
      by_cases hkv : k = v
      · subst hkv; rw [if_pos rfl]; exact ⟨u, w, hw, h u hu, hn⟩
      · rw [if_neg hkv]
        have hk : upN F v (F u + 1) k < 999 := hk
        unfold upN at hk
        rw [if_neg hkv] at hk
        exact h k hk
    · exact h
  · exact h
theorem rl_9 {T : TT} {u w : Nat} {F : Nat → Nat} (h : ∀ k, F k ≤ 999) : ∀ k, (rl T u w F).1 k ≤ 999 := fun k => Nat.le_trans rl_up (h k)
theorem rl_cl {T : TT} {u w v : Nat} {F : Nat → Nat} (hn : nxC T u w = some v) : (rl T u w F).1 v ≤ F u + 1 := by
  unfold rl
  rw [hn]
  show (if F u + 1 < F v then (upN F v (F u + 1), true) else (F, false)).1 v ≤ F u + 1
  split
  · show upN F v (F u + 1) v ≤ F u + 1
    unfold upN; rw [if_pos rfl]; exact Nat.le_refl _
  · show F v ≤ F u + 1; omega
theorem rl_no {T : TT} {u w : Nat} {F : Nat → Nat} (h : (rl T u w F).2 = false) : (rl T u w F).1 = F := by
  unfold rl at *
  split
  · rename_i v hn
    rw [hn] at h
    have h : (if F u + 1 < F v then (upN F v (F u + 1), true) else (F, false)).2 = false := h
    split
    · rename_i c; rw [if_pos c] at h; cases h
    · rfl
  · rfl
/-- p: what stands so far; P: how far from the start all is right -/
theorem rlW_all {T : TT} {s u : Nat} : ∀ (d w : Nat) (p : (Nat → Nat) × Bool), 4 = w + d → snd T s p.1 → (∀ k, p.1 k ≤ 999) →
    snd T s (rlW T u d w p).1 ∧ (∀ k, (rlW T u d w p).1 k ≤ p.1 k) ∧ (∀ k, (rlW T u d w p).1 k ≤ 999) ∧ (p.2 = true → (rlW T u d w p).2 = true) ∧ ((rlW T u d w p).2 = false → (rlW T u d w p).1 = p.1 ∧ (p.1 u < 999 → ∀ x v, w ≤ x → x < 4 → nxC T u x = some v → p.1 v ≤ p.1 u + 1)) ∧ (∀ m, m < 999 → p.1 u ≤ m → ∀ x v, w ≤ x → x < 4 → nxC T u x = some v → (rlW T u d w p).1 v ≤ m + 1) := by
  intro d
  induction d with
  | zero =>
    intro w p e1 h h9
    exact ⟨h, fun k => Nat.le_refl _, h9, id, fun _ => ⟨rfl, fun _ x v h1 h2 => by omega⟩, fun m _ _ x v h1 h2 => by omega⟩
  | succ d ih =>
    intro w p e1 h h9
    by_cases c : p.1 u < 999
    · have er : rlW T u (d + 1) w p = rlW T u d (w + 1) ((rl T u w p.1).1, p.2 || (rl T u w p.1).2) := by
        show (if p.1 u < 999 then _ else _) = _
        rw [if_pos c]
      rw [er]
      obtain ⟨i1, i2, i3, i4, i5, i6⟩ := ih (w + 1) ((rl T u w p.1).1, p.2 || (rl T u w p.1).2) (by omega) (rl_snd (by omega) c h h9) (rl_9 h9)
      refine ⟨i1, fun k => Nat.le_trans (i2 k) rl_up, i3, fun hp => i4 (by simp [hp]), fun hf => ?_, fun m hm hu x v h1 h2 hn => ?_⟩
      · obtain ⟨j1, j2⟩ := i5 hf
        have hb : (p.2 || (rl T u w p.1).2) = false := by
          cases hh : (p.2 || (rl T u w p.1).2)
          · rfl
          · rw [i4 hh] at hf; cases hf
        have hb2 : (rl T u w p.1).2 = false := by
          cases hh : (rl T u w p.1).2
          · rfl
          · rw [hh] at hb; simp at hb
        have e := rl_no hb2
        refine ⟨j1.trans e, fun _ x v h1 h2 hn => ?_⟩
        by_cases hx : x = w
        · subst hx
          have := rl_cl (F := p.1) hn
          rw [e] at this; exact this
        · have := j2 (by rw [e]; exact c) x v (by omega) h2 hn
          simp only [e] at this
          exact this
      · by_cases hx : x = w
        · subst hx
          have := rl_cl (F := p.1) hn
          exact Nat.le_trans (i2 v) (Nat.le_trans this (by omega))
        · exact i6 m hm (Nat.le_trans rl_up hu) x v (by omega) h2 hn
    · have er : rlW T u (d + 1) w p = p := by
        show (if p.1 u < 999 then _ else _) = _
        rw [if_neg c]
      rw [er]
      exact ⟨h, fun k => Nat.le_refl _, h9, id, fun _ => ⟨rfl, fun hh => absurd hh c⟩, fun m hm hu => by omega⟩
theorem rlA_all {T : TT} {s : Nat} : ∀ (d u : Nat) (p : (Nat → Nat) × Bool), 64 = u + d → snd T s p.1 → (∀ k, p.1 k ≤ 999) →
    snd T s (rlA T d u p).1 ∧ (∀ k, (rlA T d u p).1 k ≤ p.1 k) ∧ (∀ k, (rlA T d u p).1 k ≤ 999) ∧ (p.2 = true → (rlA T d u p).2 = true) ∧ ((rlA T d u p).2 = false → (rlA T d u p).1 = p.1 ∧ ∀ y, u ≤ y → y < 64 → p.1 y < 999 → ∀ x v, x < 4 → nxC T y x = some v → p.1 v ≤ p.1 y + 1) ∧ (∀ y m, u ≤ y → y < 64 → m < 999 → p.1 y ≤ m → ∀ x v, x < 4 → nxC T y x = some v → (rlA T d u p).1 v ≤ m + 1) := by
  intro d
  induction d with
  | zero =>
    intro u p e1 h h9
    exact ⟨h, fun k => Nat.le_refl _, h9, id, fun _ => ⟨rfl, fun y h1 h2 => by omega⟩, fun y m h1 h2 => by omega⟩
  | succ d ih =>
    intro u p e1 h h9
    obtain ⟨j1, j2, j3, j4, j5, j6⟩ := rlW_all (T := T) (s := s) (u := u) 4 0 p rfl h h9
    obtain ⟨i1, i2, i3, i4, i5, i6⟩ := ih (u + 1) (rlW T u 4 0 p) (by omega) j1 j3
    have er : rlA T (d + 1) u p = rlA T d (u + 1) (rlW T u 4 0 p) := rfl
    rw [er]
    refine ⟨i1, fun k => Nat.le_trans (i2 k) (j2 k), i3, fun hp => i4 (j4 hp), fun hf => ?_, fun y m h1 h2 hm hy x v hx hn => ?_⟩
    · have hb : (rlW T u 4 0 p).2 = false := by
        cases hh : (rlW T u 4 0 p).2
        · rfl
        · rw [i4 hh] at hf; cases hf
      obtain ⟨k1, k2⟩ := j5 hb
      obtain ⟨l1, l2⟩ := i5 hf
      rw [k1] at l1 l2
      refine ⟨l1, fun y h1 h2 hy x v hx hn => ?_⟩
      by_cases hyu : y = u
      · subst hyu; exact k2 hy x v (Nat.zero_le _) hx hn
      · exact l2 y (by omega) h2 hy x v hx hn
    · by_cases hyu : y = u
      · subst hyu
        exact Nat.le_trans (i2 v) (j6 m hm hy x v (Nat.zero_le _) hx hn)
      · exact i6 y m (by omega) h2 hm (Nat.le_trans (j2 y) hy) x v hx hn
/-- all cells that are so near have their way -/
def upTo (T : TT) (s p : Nat) (F : Nat → Nat) : Prop := ∀ n v, n ≤ p → Rch T s n v → F v ≤ n
theorem upTo_s {T : TT} {s p : Nat} {q : (Nat → Nat) × Bool} (hD : WD T) (hs : s < 64) (hp : p < 999) (h1 : snd T s q.1) (h9 : ∀ k, q.1 k ≤ 999) (h : upTo T s p q.1) : upTo T s (p + 1) (rlA T 64 0 q).1 := by
  obtain ⟨i1, i2, i3, i4, i5, i6⟩ := rlA_all (T := T) (s := s) 64 0 q rfl h1 h9
  intro n v hn hr
  by_cases c : n ≤ p
  · exact Nat.le_trans (i2 v) (h n v c hr)
  · have e : n = p + 1 := by omega
    subst e
    obtain ⟨u, w, hw, hu, hx⟩ := hr
    exact i6 u p (Nat.zero_le _) (Rch_lt hD hs p u hu) hp (h p u (Nat.le_refl _) hu) w v hw hx
/-- no way need be longer than 63 steps -/
def shrt (T : TT) (s : Nat) : Prop := ∀ n v, Rch T s n v → ∃ m, m ≤ n ∧ m < 64 ∧ Rch T s m v
/-- it comes to rest, and then the table is right -/
theorem M_rest {T : TT} {s : Nat} {q : (Nat → Nat) × Bool} (hD : WD T) (hs : s < 64) (ho : shrt T s) (h1 : snd T s q.1) (h9 : ∀ k, q.1 k ≤ 999) (h0 : q.1 s = 0) (hf : (rlA T 64 0 q).2 = false) : Dst T s (fun v => if q.1 v < 999 then some (q.1 v) else none) := by
  obtain ⟨-, -, -, -, i5, -⟩ := rlA_all (T := T) (s := s) 64 0 q rfl h1 h9
  obtain ⟨-, k2⟩ := i5 hf
  have key : ∀ n v, n < 999 → Rch T s n v → q.1 v ≤ n := by
    intro n
    induction n with
    | zero => intro v _ hv; have hv : v = s := hv; subst hv; omega
    | succ n ih =>
      rintro v hlt ⟨u, w, hw, hu, hn⟩
      have a1 := ih u (by omega) hu
      have := k2 u (Nat.zero_le _) (Rch_lt hD hs n u hu) (by omega) w v hw hn
      omega
  refine ⟨fun v n _ hr => ?_, fun n v hr => ?_⟩
  · by_cases c : q.1 v < 999
    · simp only [c, if_true] at hr
      cases hr; exact h1 v c
    · simp only [c, if_false] at hr; cases hr
  · obtain ⟨m, hm, hm6, hr2⟩ := ho n v hr
    have a1 := key m v (by omega) hr2
    exact ⟨q.1 v, by omega, by simp only [show q.1 v < 999 by omega, if_true]⟩
theorem rl_still {T : TT} {u w : Nat} {F : Nat → Nat} (h : ∀ v, nxC T u w = some v → F v ≤ F u + 1) : rl T u w F = (F, false) := by
  unfold rl
  cases hn : nxC T u w with
  | none => rfl
  | some v =>
    show (if F u + 1 < F v then (upN F v (F u + 1), true) else (F, false)) = _
    rw [if_neg (by have := h v hn; omega)]
theorem rlW_still {T : TT} {u : Nat} {F : Nat → Nat} {b : Bool} (h : F u < 999 → ∀ w v, w < 4 → nxC T u w = some v → F v ≤ F u + 1) : ∀ d w, w + d ≤ 4 → rlW T u d w (F, b) = (F, b)
  | 0, _, _ => rfl
  | d + 1, w, hw => by
    show (if F u < 999 then rlW T u d (w + 1) ((rl T u w F).1, b || (rl T u w F).2) else (F, b)) = (F, b)
    split
    · rename_i c
      rw [rl_still (fun v hn => h c w v (by omega) hn), Bool.or_false]
      exact rlW_still h d (w + 1) (by omega)
    · rfl
theorem rlA_still {T : TT} {F : Nat → Nat} {b : Bool} (h : ∀ u, F u < 999 → ∀ w v, w < 4 → nxC T u w = some v → F v ≤ F u + 1) : ∀ d u, rlA T d u (F, b) = (F, b)
  | 0, _ => rfl
  | d + 1, u => by
    show rlA T d (u + 1) (rlW T u 4 0 (F, b)) = (F, b)
    rw [rlW_still (h u) 4 0 (by decide), rlA_still h d (u + 1)]
theorem M_way_go {T : TT} {s : Nat} {x1 x2 : Int32} {v : Nat} {S0 : MS} (hD : WD T) (hs : s < 64) (ho : shrt T s) (hv : v < 64) (e8 : 8 * x1 + x2 = nI v) : ∀ (e p fuel : Nat) (F : Nat → Nat) (S : MS), 63 = p + e → e + 2 < fuel → MO S → tM S = T → VF F S → snd T s F → (∀ k, F k ≤ 999) → F s = 0 → upTo T s p F → Fr P39 S0 S →
    ∃ S1 r, fX11_way_63 fuel 0 x1 x2 1 S = some ((match r v with | some n => nI n | none => -2), S1) ∧ Dst T s r ∧ (∀ n, r v = some n → n < 999) ∧ Fr P39 S0 S1 := by
  intro e
  induction e with
  | zero =>
    intro p fuel F S e1 e2 h et hF h1 h9 h0 hp hf
    obtain ⟨f, rfl⟩ : ∃ f, fuel = f + 2 := ⟨fuel - 2, by omega⟩
    have still : ∀ u, F u < 999 → ∀ w y, w < 4 → nxC T u w = some y → F y ≤ F u + 1 := fun u hu w y hw hn => by
      obtain ⟨m, hm, hm6, hr⟩ := ho (F u + 1) y ⟨u, w, hw, h1 u hu, hn⟩
      exact Nat.le_trans (hp m y (by omega) hr) hm
    have er := rlA_still (b := false) still 64 0
    have hd := M_rest (q := (F, false)) hD hs ho h1 h9 h0 (by rw [er])
    obtain ⟨S1, q1, q2, q3, q4, q5⟩ := M_rlA_go (K63 := fX11_way_63 (f + 1)) (x1 := x1) (x2 := x2) (S0 := S0) hD 64 0 1000 (F, false) S rfl (by decide) h et hF hf
    rw [er] at q1 q4
    have q1' : fX11_way_72 (fX11_way_63 (f + 1)) 1000 0 x1 x2 (0 : Int32) (0 : Int32) S = fX11_way_63 (f + 1) 0 x1 x2 (0 : Int32) S1 := q1
    have e63 : fX11_way_63 (f + 2) 0 x1 x2 1 S = fX11_way_63 (f + 1) 0 x1 x2 (0 : Int32) S1 := by
      rw [← q1']
      conv => lhs; unfold fX11_way_63
      rw [if_neg one0]
    refine ⟨S1, _, ?_, hd, fun n hn => ?_, q5⟩
    · rw [e63]
      obtain ⟨v1, v2⟩ := q4 v hv
      unfold fX11_way_63
      rw [if_pos rfl, e8, mr_62 q2.1, lm_39, bnd_nI hv (by decide), if_pos rfl, nI_clamp (by omega), v1]
      have h9v : F v ≤ 999 := h9 v
      have e9 : (nI (F v) = 999) ↔ F v = 999 := by rw [show (999 : Int32) = nI 999 from rfl, nI_eq (by omega) (by decide)]
      by_cases c : F v = 999
      · rw [if_pos (e9.mpr c)]; simp only [c, Nat.lt_irrefl, if_false]
      · rw [if_neg (fun hh => c (e9.mp hh))]
        have : F v < 999 := by have := h9 v; omega
        simp only [this, if_true]
    · by_cases c : F v < 999
      · simp only [c, if_true] at hn; cases hn; exact c
      · simp only [c, if_false] at hn; cases hn
  | succ e ih =>
    intro p fuel F S e1 e2 h et hF h1 h9 h0 hp hf
    obtain ⟨f, rfl⟩ : ∃ f, fuel = f + 2 := ⟨fuel - 2, by omega⟩
    obtain ⟨i1, i2, i3, i4, i5, i6⟩ := rlA_all (T := T) (s := s) 64 0 (F, false) rfl h1 h9
    obtain ⟨S1, q1, q2, q3, q4, q5⟩ := M_rlA_go (K63 := fX11_way_63 (f + 1)) (x1 := x1) (x2 := x2) (S0 := S0) hD 64 0 1000 (F, false) S rfl (by decide) h et hF hf
    have q1' : fX11_way_72 (fX11_way_63 (f + 1)) 1000 0 x1 x2 (0 : Int32) (0 : Int32) S = fX11_way_63 (f + 1) 0 x1 x2 (b2i (rlA T 64 0 (F, false)).2) S1 := q1
    have e63 : fX11_way_63 (f + 2) 0 x1 x2 1 S = fX11_way_63 (f + 1) 0 x1 x2 (b2i (rlA T 64 0 (F, false)).2) S1 := by
      rw [← q1']
      conv => lhs; unfold fX11_way_63
      rw [if_neg one0]
    rw [e63]
    have hup := upTo_s (q := (F, false)) hD hs (show p < 999 by omega) h1 h9 hp
    have hrest := fun hb => M_rest (q := (F, false)) hD hs ho h1 h9 h0 hb
    clear e63 q1 q1' i4 i6
    generalize rlA T 64 0 (F, false) = qq at *
    have k0 : qq.1 s = 0 := by
      have hh : qq.1 s ≤ F s := i2 s
      omega
    cases hb : qq.2 with
    | true =>
      exact ih (p + 1) (f + 1) qq.1 S1 (by omega) (by omega) q2 q3 q4 i1 i3 k0 hup q5
    | false =>
      have hd := hrest hb
      obtain ⟨k1, -⟩ := i5 hb
      rw [k1] at q4
      refine ⟨S1, _, ?_, hd, fun n hn => ?_, q5⟩
      · obtain ⟨v1, v2⟩ := q4 v hv
        have v1 : gI S1 39 v = nI (F v) := v1
        unfold fX11_way_63
        rw [if_pos b2i_f, e8, mr_62 q2.1, lm_39, bnd_nI hv (by decide), if_pos rfl, nI_clamp (by omega), v1]
        have e9 : (nI (F v) = 999) ↔ F v = 999 := by have := h9 v; rw [show (999 : Int32) = nI 999 from rfl, nI_eq (by omega) (by decide)]
        by_cases c : F v = 999
        · rw [if_pos (e9.mpr c)]; simp only [c, Nat.lt_irrefl, if_false]
        · rw [if_neg (fun hh => c (e9.mp hh))]
          have : F v < 999 := by have := h9 v; omega
          simp only [this, if_true]
      · by_cases c : F v < 999
        · simp only [c, if_true] at hn; cases hn; exact c
        · simp only [c, if_false] at hn; cases hn
theorem M_clr_go {s : Nat} {x1 x2 : Int32} {S0 : MS} (hs : s < 64) : ∀ (d i fuel : Nat) (S : MS), 64 = i + d → d < fuel → MR S → 8 * gI S 30 0 + gI S 31 0 = nI s → Fr P39 S0 S → (∀ k, k < i → gI S 39 k = 999) →
    ∃ S1, fX11_way_18 fuel 0 x1 x2 (nI i) S = fX11_way_63 1000 0 x1 x2 1 S1 ∧ Fr P39 S0 S1 ∧ VF (fun k => if k = s then 0 else 999) S1 := by
  intro d
  induction d with
  | zero =>
    intro i fuel S e1 e2 h es hf h1
    obtain ⟨f, rfl⟩ : ∃ f, fuel = f + 1 := ⟨fuel - 1, by omega⟩
    refine ⟨pI S 39 s 0, ?_, hf.pI rfl, fun k hk => ?_⟩
    · unfold fX11_way_18 fX11_way_61
      rw [show i = 64 from by omega, if_pos (by decide), mr_46 h, mr_47 h, mr_62 h, lm_30, lm_31, lm_39, show bnd (0 : Int32) 23 = true from rfl, if_pos rfl, if_pos rfl, show (0 : Int32).toNatClampNeg = 0 from rfl, es, bnd_nI hs (by decide), if_pos rfl, nI_clamp (by omega)]
    · by_cases hks : k = s
      · subst hks; rw [gI_same]; simp only [if_true]; exact ⟨rfl, by decide⟩
      · rw [gI_nek hks]; simp only [hks, if_false]; exact ⟨h1 k (by omega), Nat.le_refl _⟩
  | succ d ih =>
    intro i fuel S e1 e2 h es hf h1
    obtain ⟨f, rfl⟩ : ∃ f, fuel = f + 1 := ⟨fuel - 1, by omega⟩
    unfold fX11_way_18
    rw [if_neg (show ¬ (64 : Int32) ≤ nI i from nle (n := 64) (by decide) (by omega)), mr_62 h, lm_39, bnd_nI (show i < 64 by omega) (by decide), if_pos rfl, nI_clamp (by omega), nI_1]
    refine ih (i + 1) f _ (by omega) (by omega) (h.of rfl) (by rw [gI_neo (by decide), gI_neo (by decide)]; exact es) (hf.pI rfl) (fun k hk => ?_)
    by_cases hki : k = i
    · subst hki; exact gI_same
    · rw [gI_nek hki]; exact h1 k (by omega)
theorem sim_16 : Sim_16 Inv := by
  intro SX SM z0 z1 ⟨t, T, h⟩
  have hv := h.th
  have hiv : Inv SX (th0 SM) := ⟨t, T, hv⟩
  obtain ⟨hX, hM, ex, em, hW, h57, hE⟩ := hv.1
  have hw := hv.2.1.1
  have hk := hv.2.1.2.1
  have hD := hW.2.2.2.1
  unfold fX10_way fX11_way
  rw [rx_told hX.1, X_isCell, M_isCell hM.1, ex, em]
  cases hc : cellB T z0 z1 with
  | false => exact ⟨_, _, rfl, rfl, rfl, hiv⟩
  | true =>
    obtain ⟨p, q, hp, hq, rfl, rfl⟩ := cellB_idx hD hc
    obtain ⟨a, b, ha, hb, ea, eb⟩ := WP_idx hD hk.1
    have x4 : gI SX 87 4 = nI a := (congrFun hw 4).trans ea
    have x5 : gI SX 87 5 = nI b := (congrFun hw 5).trans eb
    have m4 : gI (th0 SM) 30 0 = nI a := ea
    have m5 : gI (th0 SM) 31 0 = nI b := eb
    have hs : a * 8 + b < 64 := by omega
    have hv6 : p * 8 + q < 64 := by omega
    obtain ⟨S1, r, q1, q2, q3, q4⟩ := X_fewest (s := a * 8 + b) (v := p * 8 + q) hW hX ex hs hv6
    have ho : shrt T (a * 8 + b) := fun n v hr => by
      obtain ⟨m, hm, e⟩ := q2.2 n v hr
      have hv := Rch_lt hD hs n v hr
      exact ⟨m, hm, q3 v m hv e, q2.1 v m hv e⟩
    obtain ⟨M1, b1, b2, b3⟩ := M_clr_go (s := a * 8 + b) (x1 := nI p) (x2 := nI q) (S0 := th0 SM) hs 64 0 1000 (th0 SM) rfl (by decide) hM.1 (by rw [m4, m5, idx8']) Fr.rf (fun k hk => by omega)
    obtain ⟨M2, r', c1, c2, c3, c4⟩ := M_way_go (s := a * 8 + b) (x1 := nI p) (x2 := nI q) (v := p * 8 + q) (S0 := th0 SM) hD hs ho hv6 (idx8' p q) 63 0 1000 (fun k => if k = a * 8 + b then 0 else 999) M1 rfl (by decide) (hM.f39 b2) ((Fr.toldM b2 P39_t).trans em) b3 (fun k hk => by
      by_cases hks : k = a * 8 + b
      · simp only [hks, if_true]; rfl
      · simp only [hks, if_false] at hk; omega) (fun k => by
      by_cases hks : k = a * 8 + b
      · simp only [hks, if_true]; omega
      · simp only [hks, if_false]; omega) (by simp only [if_true]) (fun n v hn hr => by
      have : n = 0 := by omega
      subst this
      have hr : v = a * 8 + b := hr
      simp only [hr, if_true]; omega) b2
    have b1' : fX11_way_18 1000 0 (nI p) (nI q) (0 : Int32) (th0 SM) = _ := b1
    have er := Dst_uni q2 c2 hv6
    rw [Option.bind_some, if_neg b2i_t, Option.bind_some, if_neg b2i_t, rx_0_6 hX.1, rx_0_9 hX.1, x4, x5, idx8, idx8, q1, b1', c1, Option.bind_some, er]
    have hv2 : Inv S1 M2 := ⟨t, T, hv.quiet (q4.mo (fun o j hp => by unfold PP at hp; unfold QX; omega)) (Fr.wld q4 (fun o j p q hp => by unfold PP at hp; omega)) (c4.mo P39_Q) (wM_fr c4 P39_w)⟩
    cases hr : r' (p * 8 + q) with
    | none => exact ⟨_, _, rfl, rfl, rfl, hv2⟩
    | some n =>
      have hn : ¬ nI n = -1 := nI_neg (by have := c3 n hr; omega)
      show ∃ qX qM, (if nI n = -1 then some ((-2 : Int32), S1) else some (nI n, S1)) = some qX ∧ _
      rw [if_neg hn]
      exact ⟨_, _, rfl, rfl, rfl, hv2⟩
