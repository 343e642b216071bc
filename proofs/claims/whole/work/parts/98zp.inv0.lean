/-! ===== the start: the invariant, and all calls ===== -/
theorem i_told {SX SM : MS} (i_law : gI SX 16 2 = 0 ∧ gI SX 19 2 = 0 ∧ gI SX 22 2 = 0 ∧ (∀ k, k < 3 → gI SM 21 k = 0 ∧ gI SM 22 k = 0)) (i_sc : ∀ k, k < 16 → scX SX 2 k = scM SM k) (i_cnt : ∀ q, q < 5 → gI SX (2 + 3 + 2 * q) 3 = 0 ∧ gI SM 2 (5 + q) = 0) (i_wl : gI SM 2 4 = 0 ∧ ∀ c, c < 64 → gI SX (2 + 1) c = 0) (i_sn : ∀ h, h < 24 → gI SX (2 + 2) h = -1) : tX SX 2 = tM SM := by
  refine Prod.ext ?_ (Prod.ext ?_ (Prod.ext ?_ (Prod.ext ?_ ?_)))
  · funext k; show scX SX 2 k = scM SM k
    by_cases hk : k < 16
    · exact i_sc k hk
    · unfold scX scM
      rw [if_neg (by omega), if_neg (by omega), if_neg (by omega), if_neg (by omega), if_neg (by omega), if_neg (by omega), if_neg (by omega), if_neg (by omega)]
  · funext q i c; show tbX SX 2 q i c = tbM SM q i c
    unfold tbX tbM
    by_cases hq : q < 5
    · rw [(i_cnt q hq).1, (i_cnt q hq).2, if_neg (fun h => absurd h.2.2 (Nat.not_lt_zero _)), if_neg (fun h => absurd h.2.2 (Nat.not_lt_zero _))]
    · rw [if_neg (fun h => hq h.1), if_neg (fun h => hq h.1)]
  · funext c; show wlX SX 2 c = wlM SM c
    unfold wlX wlM
    rw [i_wl.1, decide_eq_decide]
    exact ⟨fun h => absurd (i_wl.2 c h.1) h.2, fun ⟨_, k, h, _⟩ => absurd h (Nat.not_lt_zero _)⟩
  · funext h; show snX SX 2 h = snM SM h
    unfold snX snM
    by_cases hh : h < 24
    · rw [if_pos hh, if_pos hh, i_sn h hh, show gI SM 2 5 = 0 from (i_cnt 0 (by decide)).2]; rfl
    · rw [if_neg hh, if_neg hh]
  · funext k; show lwX SX 2 k = lwM SM k
    obtain ⟨l0, l1, l2, lm⟩ := i_law
    have z : ∀ k, k < 3 → gI SX (2 + 14 + 3 * k) 2 = 0 := fun k hk => by
      rcases (by omega : k = 0 ∨ k = 1 ∨ k = 2) with rfl | rfl | rfl
      · exact l0
      · exact l1
      · exact l2
    unfold lwX lwM
    by_cases hk : k < 3
    · rw [if_pos hk, if_pos hk, z k hk, (lm k hk).1, (lm k hk).2]; rfl
    · rw [if_neg hk, if_neg hk]
theorem inv_of {SX SM : MS} (i_law : gI SX 16 2 = 0 ∧ gI SX 19 2 = 0 ∧ gI SX 22 2 = 0 ∧ (∀ k, k < 3 → gI SM 21 k = 0 ∧ gI SM 22 k = 0)) (i_sc : ∀ k, k < 16 → scX SX 2 k = scM SM k) (i_cnt : ∀ q, q < 5 → gI SX (2 + 3 + 2 * q) 3 = 0 ∧ gI SM 2 (5 + q) = 0) (i_wl : gI SM 2 4 = 0 ∧ ∀ c, c < 64 → gI SX (2 + 1) c = 0) (i_sn : ∀ h, h < 24 → gI SX (2 + 2) h = -1) (i_RX : RX 2 SX) (i_kx : KX SX) (i_MR : MR SM) (i_dim : gI SM 2 0 = 5 ∧ gI SM 2 1 = 5 ∧ gI SM 2 10 = 0 ∧ gI SM 0 57 = 0) (i_w : ∀ k, k < 44 → wX SX 87 k = wM SM 0 k) (i_w0 : 0 ≤ wM SM 0 4 ∧ wM SM 0 4 < 5 ∧ 0 ≤ wM SM 0 5 ∧ wM SM 0 5 < 5 ∧ 0 ≤ wM SM 0 7 ∧ wM SM 0 7 < 16 ∧ 0 ≤ wM SM 0 8 ∧ wM SM 0 8 < 256 ∧ 0 ≤ wM SM 0 3 ∧ wM SM 0 3 ≤ 20000 ∧ wM SM 0 3 ≤ 9900) (i_etc : gI SX 0 15 = 0 ∧ gI SM 0 55 = 0 ∧ gI SX 81 1 = 0 ∧ gI SM 0 56 = 0 ∧ gI SX 84 3 = 0 ∧ gI SM 0 66 = 0 ∧ gI SX 83 2 = -1 ∧ gI SM 0 67 = -1 ∧ gI SX 0 12 = 0 ∧ gI SM 0 2 = 0 ∧ gI SX 0 13 = gI SM 0 36 ∧ gI SX 0 14 = gI SM 0 37) : Inv SX SM := by
  have tld := i_told i_law i_sc i_cnt i_wl i_sn
  obtain ⟨l0, l1, l2, lm⟩ := i_law
  obtain ⟨d0, d1, d10, d57⟩ := i_dim
  obtain ⟨a1, a2, a3, a4, a5, a6, a7, a8, a9, a10, a11⟩ := i_w0
  obtain ⟨e1, e2, e3, e4, e5, e6, e7, e8, e9, e10, e11, e12⟩ := i_etc
  have scq : ∀ q, q < 5 → sc (tM SM) q = 0 := fun q hq => by
    show scM SM q = 0
    unfold scM
    rw [if_pos hq, mNk5 q hq]; exact (i_cnt q hq).2
  have nqq : ∀ q, q < 5 → nq (tM SM) q = 0 := fun q hq => by
    unfold nq
    rw [scq q hq]; rfl
  have e8' : sc (tM SM) 8 = 5 := d0
  have e9' : sc (tM SM) 9 = 5 := d1
  have e13' : sc (tM SM) 13 = 0 := d10
  have lw0 : ∀ k, k < 3 → lwl (tM SM) k = [] := fun k hk => by
    show lwM SM k = []
    unfold lwM
    rw [if_pos hk, (lm k hk).1, (lm k hk).2]; rfl
  have ww : wX SX 87 = wM SM 0 := by
    funext k
    by_cases hk : k < 44
    · exact i_w k hk
    · unfold wX wM
      rw [if_neg (by omega), if_neg (by omega), if_neg (by omega), if_neg (by omega), if_neg (by omega), if_neg (by omega), if_neg (by omega), if_neg (by omega)]
  refine ⟨2, tM SM, ⟨⟨i_RX, i_kx, ?_, ?_, ?_⟩, ⟨i_MR, fun k hk => ?_, ?_⟩, tld, rfl, ⟨fun q hq => ?_, fun k hk => ?_, fun k hk => Or.inl (lw0 k hk), ?_, ⟨fun i hi => ?_, fun i hi => ?_, fun h hh => ?_⟩⟩, d57, ⟨?_, ?_, fun i hi => ?_⟩⟩, ⟨ww, ⟨⟨a1, ?_, a3, ?_⟩, ⟨a5, a6, a7, a8⟩, a9, a10⟩, a11⟩, ⟨false, e1, e2, fun q => absurd q (by decide)⟩, ⟨0, by decide, e3, e4, fun k hk => absurd hk (Nat.not_lt_zero _)⟩, ⟨0, by decide, e5, e6, e7.trans e8.symm, Or.inl e8, fun k hk => absurd hk (Nat.not_lt_zero _)⟩, ⟨0, by decide, e9, e10, fun k hk => absurd hk (Nat.not_lt_zero _)⟩, e11, e12⟩
  · show 0 ≤ gI SX 16 2
    rw [l0]; decide
  · show 0 ≤ gI SX 19 2
    rw [l1]; decide
  · show 0 ≤ gI SX 22 2
    rw [l2]; decide
  · rw [(lm k hk).1, (lm k hk).2]
    exact ⟨by decide, by decide, by decide, fun i hi => absurd hi (Nat.not_lt_zero _)⟩
  · unfold WWM
    rw [i_wl.1]; decide
  · rw [scq q hq]
    exact ⟨by decide, (nI_leI (show (0 : Nat) < 2 ^ 31 by decide) (by have := (mBq q hq).2.2.2.2; omega)).mpr (Nat.zero_le _)⟩
  · rw [lw0 k hk]; exact Nat.zero_le _
  · show 0 < sc (tM SM) 8 ∧ sc (tM SM) 8 ≤ 8 ∧ 0 < sc (tM SM) 9 ∧ sc (tM SM) 9 ≤ 8
    rw [e8', e9']; decide
  · rw [nqq 1 (by decide)] at hi; exact absurd hi (Nat.not_lt_zero _)
  · rw [nqq 0 (by decide)] at hi; exact absurd hi (Nat.not_lt_zero _)
  · left
    show snM SM h = -1
    unfold snM
    rw [if_pos hh, show gI SM 2 5 = 0 from (i_cnt 0 (by decide)).2]; rfl
  · rw [e13']; decide
  · rw [e13']; decide
  · rw [nqq 3 (by decide)] at hi; exact absurd hi (Nat.not_lt_zero _)
  · rw [e8']; exact a2
  · rw [e9']; exact a4
theorem inv0 : Inv SX0 SM0 := inv_of i_law i_sc i_cnt i_wl i_sn sx0_RX i_kx sm0_MR i_dim i_w i_w0 i_etc
theorem sim_all : SimAll Inv := ⟨sim_0, sim_1, sim_2, sim_3, sim_4, sim_6, sim_7, sim_8, sim_9, sim_10, sim_11, sim_12, sim_13, sim_14, sim_15, sim_16, sim_17, sim_18, sim_19, sim_20, sim_21, sim_22, sim_23, sim_24, sim_25, sim_26, sim_27, sim_28, sim_29, sim_30, sim_31, sim_32⟩
theorem whole_start {p : Program} {e : Env} {s : State} {m : MethodId} {below : List Frame} {meth : Method} {c : Code} (l : Launch) (hflags : l.flags = flags0) {b L : Nat} {xs : Nat → Int32} (hL : L ≤ 3072) (C0 : lw_At p s m meth c b L xs) :
    W p l e room_1 s m #[Value.ref b] below meth c s.heap [] 0 0 (lw_Z below #[Value.ref b] s) (entryFrame m ([Value.ref b] : List Value).toArray 7) :=
  whole_open2 l hflags hL C0 sx0 sm0 inv0 sim_all sim_5
