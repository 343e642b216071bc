/-! ===== references ===== -/
def rXl : List (Nat × Nat × Nat) := [(0, 0, 1), (0, 3, 48), (0, 4, 52), (0, 5, 54), (0, 6, 78), (0, 7, 81), (0, 8, 83), (0, 9, 87), (0, 10, 91), (0, 11, 95), (2, 0, 3), (2, 1, 4), (2, 2, 5), (2, 3, 7), (2, 4, 9), (2, 5, 11), (2, 6, 13), (2, 7, 15), (5, 0, 6), (7, 0, 8), (9, 0, 10), (11, 0, 12), (13, 0, 14), (15, 0, 16), (15, 1, 19), (15, 2, 22), (16, 0, 17), (16, 1, 18), (19, 0, 20), (19, 1, 21), (22, 0, 23), (22, 1, 24), (25, 0, 26), (25, 1, 27), (25, 2, 28), (25, 3, 30), (25, 4, 32), (25, 5, 34), (25, 6, 36), (25, 7, 38), (28, 0, 29), (30, 0, 31), (32, 0, 33), (34, 0, 35), (36, 0, 37), (38, 0, 39), (38, 1, 42), (38, 2, 45), (39, 0, 40), (39, 1, 41), (42, 0, 43), (42, 1, 44), (45, 0, 46), (45, 1, 47), (48, 0, 49), (48, 1, 50), (52, 0, 53), (54, 0, 55), (54, 1, 56), (54, 2, 57), (54, 3, 52), (57, 0, 58), (57, 1, 62), (57, 2, 66), (57, 3, 70), (57, 4, 74), (58, 0, 59), (58, 1, 60), (58, 2, 61), (62, 0, 63), (62, 1, 64), (62, 2, 65), (66, 0, 67), (66, 1, 68), (66, 2, 69), (70, 0, 71), (70, 1, 72), (70, 2, 73), (74, 0, 75), (74, 1, 76), (74, 2, 77), (78, 0, 79), (78, 1, 80), (81, 0, 82), (83, 0, 84), (83, 1, 86), (84, 0, 85), (87, 0, 88), (87, 1, 89), (87, 2, 90), (91, 0, 92), (91, 1, 93), (91, 2, 94), (95, 0, 96), (95, 1, 97), (95, 2, 98)]
def isW (w : Nat) : Prop := w ∈ [58, 62, 66, 70, 74, 87, 91, 95]
def isT (u : Nat) : Prop := u = 2 ∨ u = 25
/-- the class: its references; t: which of the two is told -/
def RX (t : Nat) (S : MS) : Prop := isT t ∧ gR S 0 1 = t ∧ gR S 0 2 = 27 - t ∧ gR S 52 1 = t ∧ ∀ q ∈ rXl, gR S q.1 q.2.1 = q.2.2
theorem RX.of {t : Nat} {S S1 : MS} (h : RX t S) (e : S1.2.1 = S.2.1) : RX t S1 := by
  unfold RX gR at *; rw [e]; exact h
section RX
variable {t u w : Nat} {S : MS}
theorem rx_told (h : RX t S) : gR S 0 1 = t := h.2.1
theorem rx_draft (h : RX t S) : gR S 0 2 = 27 - t := h.2.2.1
theorem rx_ctold (h : RX t S) : gR S 52 1 = t := h.2.2.2.1
theorem rx_at (h : RX t S) {o j v : Nat} (hm : (o, j, v) ∈ rXl) : gR S o j = v := h.2.2.2.2 _ hm
theorem rx_0_0 (h : RX t S) : gR S 0 0 = 1 := rx_at h (by decide)
theorem rx_0_3 (h : RX t S) : gR S 0 3 = 48 := rx_at h (by decide)
theorem rx_0_4 (h : RX t S) : gR S 0 4 = 52 := rx_at h (by decide)
theorem rx_0_5 (h : RX t S) : gR S 0 5 = 54 := rx_at h (by decide)
theorem rx_0_6 (h : RX t S) : gR S 0 6 = 78 := rx_at h (by decide)
theorem rx_0_7 (h : RX t S) : gR S 0 7 = 81 := rx_at h (by decide)
theorem rx_0_8 (h : RX t S) : gR S 0 8 = 83 := rx_at h (by decide)
theorem rx_0_9 (h : RX t S) : gR S 0 9 = 87 := rx_at h (by decide)
theorem rx_0_10 (h : RX t S) : gR S 0 10 = 91 := rx_at h (by decide)
theorem rx_0_11 (h : RX t S) : gR S 0 11 = 95 := rx_at h (by decide)
theorem rx_48_0 (h : RX t S) : gR S 48 0 = 49 := rx_at h (by decide)
theorem rx_48_1 (h : RX t S) : gR S 48 1 = 50 := rx_at h (by decide)
theorem rx_52_0 (h : RX t S) : gR S 52 0 = 53 := rx_at h (by decide)
theorem rx_54_0 (h : RX t S) : gR S 54 0 = 55 := rx_at h (by decide)
theorem rx_54_1 (h : RX t S) : gR S 54 1 = 56 := rx_at h (by decide)
theorem rx_54_2 (h : RX t S) : gR S 54 2 = 57 := rx_at h (by decide)
theorem rx_54_3 (h : RX t S) : gR S 54 3 = 52 := rx_at h (by decide)
theorem rx_57_0 (h : RX t S) : gR S 57 0 = 58 := rx_at h (by decide)
theorem rx_57_1 (h : RX t S) : gR S 57 1 = 62 := rx_at h (by decide)
theorem rx_57_2 (h : RX t S) : gR S 57 2 = 66 := rx_at h (by decide)
theorem rx_57_3 (h : RX t S) : gR S 57 3 = 70 := rx_at h (by decide)
theorem rx_57_4 (h : RX t S) : gR S 57 4 = 74 := rx_at h (by decide)
theorem rx_78_0 (h : RX t S) : gR S 78 0 = 79 := rx_at h (by decide)
theorem rx_78_1 (h : RX t S) : gR S 78 1 = 80 := rx_at h (by decide)
theorem rx_81_0 (h : RX t S) : gR S 81 0 = 82 := rx_at h (by decide)
theorem rx_83_0 (h : RX t S) : gR S 83 0 = 84 := rx_at h (by decide)
theorem rx_83_1 (h : RX t S) : gR S 83 1 = 86 := rx_at h (by decide)
theorem rx_84_0 (h : RX t S) : gR S 84 0 = 85 := rx_at h (by decide)
theorem rw_0 (h : RX t S) (hw : isW w) : gR S w 0 = w + 1 := rx_at h (by revert w; unfold isW; decide)
theorem rw_1 (h : RX t S) (hw : isW w) : gR S w 1 = w + 2 := rx_at h (by revert w; unfold isW; decide)
theorem rw_2 (h : RX t S) (hw : isW w) : gR S w 2 = w + 3 := rx_at h (by revert w; unfold isW; decide)
theorem rt_0 (h : RX t S) (hu : isT u) : gR S u 0 = u + 1 := by rcases hu with rfl | rfl <;> exact rx_at h (by decide)
theorem rt_1 (h : RX t S) (hu : isT u) : gR S u 1 = u + 2 := by rcases hu with rfl | rfl <;> exact rx_at h (by decide)
theorem rt_2 (h : RX t S) (hu : isT u) : gR S u 2 = u + 3 := by rcases hu with rfl | rfl <;> exact rx_at h (by decide)
theorem rt_3 (h : RX t S) (hu : isT u) : gR S u 3 = u + 5 := by rcases hu with rfl | rfl <;> exact rx_at h (by decide)
theorem rt_4 (h : RX t S) (hu : isT u) : gR S u 4 = u + 7 := by rcases hu with rfl | rfl <;> exact rx_at h (by decide)
theorem rt_5 (h : RX t S) (hu : isT u) : gR S u 5 = u + 9 := by rcases hu with rfl | rfl <;> exact rx_at h (by decide)
theorem rt_6 (h : RX t S) (hu : isT u) : gR S u 6 = u + 11 := by rcases hu with rfl | rfl <;> exact rx_at h (by decide)
theorem rt_7 (h : RX t S) (hu : isT u) : gR S u 7 = u + 13 := by rcases hu with rfl | rfl <;> exact rx_at h (by decide)
theorem rn_0 (h : RX t S) (hu : isT u) : gR S (u + 3) 0 = u + 4 := by rcases hu with rfl | rfl <;> exact rx_at h (by decide)
theorem rn_1 (h : RX t S) (hu : isT u) : gR S (u + 5) 0 = u + 6 := by rcases hu with rfl | rfl <;> exact rx_at h (by decide)
theorem rn_2 (h : RX t S) (hu : isT u) : gR S (u + 7) 0 = u + 8 := by rcases hu with rfl | rfl <;> exact rx_at h (by decide)
theorem rn_3 (h : RX t S) (hu : isT u) : gR S (u + 9) 0 = u + 10 := by rcases hu with rfl | rfl <;> exact rx_at h (by decide)
theorem rn_4 (h : RX t S) (hu : isT u) : gR S (u + 11) 0 = u + 12 := by rcases hu with rfl | rfl <;> exact rx_at h (by decide)
theorem rl_0 (h : RX t S) (hu : isT u) : gR S (u + 13) 0 = u + 14 := by rcases hu with rfl | rfl <;> exact rx_at h (by decide)
theorem rk_0 (h : RX t S) (hu : isT u) : gR S (u + 14) 0 = u + 15 := by rcases hu with rfl | rfl <;> exact rx_at h (by decide)
theorem rp_0 (h : RX t S) (hu : isT u) : gR S (u + 14) 1 = u + 16 := by rcases hu with rfl | rfl <;> exact rx_at h (by decide)
theorem rl_1 (h : RX t S) (hu : isT u) : gR S (u + 13) 1 = u + 17 := by rcases hu with rfl | rfl <;> exact rx_at h (by decide)
theorem rk_1 (h : RX t S) (hu : isT u) : gR S (u + 17) 0 = u + 18 := by rcases hu with rfl | rfl <;> exact rx_at h (by decide)
theorem rp_1 (h : RX t S) (hu : isT u) : gR S (u + 17) 1 = u + 19 := by rcases hu with rfl | rfl <;> exact rx_at h (by decide)
theorem rl_2 (h : RX t S) (hu : isT u) : gR S (u + 13) 2 = u + 20 := by rcases hu with rfl | rfl <;> exact rx_at h (by decide)
theorem rk_2 (h : RX t S) (hu : isT u) : gR S (u + 20) 0 = u + 21 := by rcases hu with rfl | rfl <;> exact rx_at h (by decide)
theorem rp_2 (h : RX t S) (hu : isT u) : gR S (u + 20) 1 = u + 22 := by rcases hu with rfl | rfl <;> exact rx_at h (by decide)
end RX
theorem lt_1 {u : Nat} (hu : isT u) : lnX (u + 1) = 64 := by rcases hu with rfl | rfl <;> rfl
theorem lt_2 {u : Nat} (hu : isT u) : lnX (u + 2) = 24 := by rcases hu with rfl | rfl <;> rfl
theorem lt_4 {u : Nat} (hu : isT u) : lnX (u + 4) = 18 := by rcases hu with rfl | rfl <;> rfl
theorem lt_6 {u : Nat} (hu : isT u) : lnX (u + 6) = 16 := by rcases hu with rfl | rfl <;> rfl
theorem lt_8 {u : Nat} (hu : isT u) : lnX (u + 8) = 24 := by rcases hu with rfl | rfl <;> rfl
theorem lt_10 {u : Nat} (hu : isT u) : lnX (u + 10) = 40 := by rcases hu with rfl | rfl <;> rfl
theorem lt_12 {u : Nat} (hu : isT u) : lnX (u + 12) = 12 := by rcases hu with rfl | rfl <;> rfl
theorem lt_13 {u : Nat} (hu : isT u) : lnX (u + 13) = 3 := by rcases hu with rfl | rfl <;> rfl
theorem lt_15 {u : Nat} (hu : isT u) : lnX (u + 15) = 64 := by rcases hu with rfl | rfl <;> rfl
theorem lt_16 {u : Nat} (hu : isT u) : lnX (u + 16) = 64 := by rcases hu with rfl | rfl <;> rfl
theorem lt_18 {u : Nat} (hu : isT u) : lnX (u + 18) = 64 := by rcases hu with rfl | rfl <;> rfl
theorem lt_19 {u : Nat} (hu : isT u) : lnX (u + 19) = 64 := by rcases hu with rfl | rfl <;> rfl
theorem lt_21 {u : Nat} (hu : isT u) : lnX (u + 21) = 64 := by rcases hu with rfl | rfl <;> rfl
theorem lt_22 {u : Nat} (hu : isT u) : lnX (u + 22) = 64 := by rcases hu with rfl | rfl <;> rfl
theorem lw_1 {w : Nat} (hw : isW w) : lnX (w + 1) = 4 := by revert w; unfold isW; decide
theorem lw_2 {w : Nat} (hw : isW w) : lnX (w + 2) = 4 := by revert w; unfold isW; decide
theorem lw_3 {w : Nat} (hw : isW w) : lnX (w + 3) = 4 := by revert w; unfold isW; decide
theorem lx_1 : lnX 1 = 700 := rfl
theorem lx_49 : lnX 49 = 24 := rfl
theorem lx_50 : lnX 50 = 72 := rfl
theorem lx_53 : lnX 53 = 7 := rfl
theorem lx_55 : lnX 55 = 4 := rfl
theorem lx_56 : lnX 56 = 4 := rfl
theorem lx_57 : lnX 57 = 5 := rfl
theorem lx_79 : lnX 79 = 64 := rfl
theorem lx_80 : lnX 80 = 64 := rfl
theorem lx_82 : lnX 82 = 100 := rfl
theorem lx_85 : lnX 85 = 120 := rfl
theorem lx_86 : lnX 86 = 24 := rfl
def rMl : List (Nat × Nat) := [(1, 1), (3, 2), (4, 3), (5, 4), (6, 5), (7, 6), (8, 7), (9, 8), (10, 9), (11, 10), (12, 11), (13, 12), (14, 13), (15, 14), (16, 15), (17, 16), (18, 17), (19, 18), (20, 19), (21, 20), (22, 21), (23, 22), (24, 23), (25, 24), (40, 25), (41, 26), (43, 27), (44, 28), (45, 29), (46, 30), (47, 31), (48, 32), (49, 33), (50, 34), (51, 35), (52, 36), (53, 37), (54, 38), (62, 39), (63, 40), (64, 41), (68, 42), (69, 43), (70, 44), (71, 45), (72, 46), (73, 47)]
/-- the reference: its references -/
def MR (S : MS) : Prop := ∀ q ∈ rMl, gR S 0 q.1 = q.2
theorem MR.of {S S1 : MS} (h : MR S) (e : S1.2.1 = S.2.1) : MR S1 := by
  unfold MR gR at *; rw [e]; exact h
theorem mr_1 {S : MS} (h : MR S) : gR S 0 1 = 1 := h (1, 1) (by decide)
theorem mr_3 {S : MS} (h : MR S) : gR S 0 3 = 2 := h (3, 2) (by decide)
theorem mr_4 {S : MS} (h : MR S) : gR S 0 4 = 3 := h (4, 3) (by decide)
theorem mr_5 {S : MS} (h : MR S) : gR S 0 5 = 4 := h (5, 4) (by decide)
theorem mr_6 {S : MS} (h : MR S) : gR S 0 6 = 5 := h (6, 5) (by decide)
theorem mr_7 {S : MS} (h : MR S) : gR S 0 7 = 6 := h (7, 6) (by decide)
theorem mr_8 {S : MS} (h : MR S) : gR S 0 8 = 7 := h (8, 7) (by decide)
theorem mr_9 {S : MS} (h : MR S) : gR S 0 9 = 8 := h (9, 8) (by decide)
theorem mr_10 {S : MS} (h : MR S) : gR S 0 10 = 9 := h (10, 9) (by decide)
theorem mr_11 {S : MS} (h : MR S) : gR S 0 11 = 10 := h (11, 10) (by decide)
theorem mr_12 {S : MS} (h : MR S) : gR S 0 12 = 11 := h (12, 11) (by decide)
theorem mr_13 {S : MS} (h : MR S) : gR S 0 13 = 12 := h (13, 12) (by decide)
theorem mr_14 {S : MS} (h : MR S) : gR S 0 14 = 13 := h (14, 13) (by decide)
theorem mr_15 {S : MS} (h : MR S) : gR S 0 15 = 14 := h (15, 14) (by decide)
theorem mr_16 {S : MS} (h : MR S) : gR S 0 16 = 15 := h (16, 15) (by decide)
theorem mr_17 {S : MS} (h : MR S) : gR S 0 17 = 16 := h (17, 16) (by decide)
theorem mr_18 {S : MS} (h : MR S) : gR S 0 18 = 17 := h (18, 17) (by decide)
theorem mr_19 {S : MS} (h : MR S) : gR S 0 19 = 18 := h (19, 18) (by decide)
theorem mr_20 {S : MS} (h : MR S) : gR S 0 20 = 19 := h (20, 19) (by decide)
theorem mr_21 {S : MS} (h : MR S) : gR S 0 21 = 20 := h (21, 20) (by decide)
theorem mr_22 {S : MS} (h : MR S) : gR S 0 22 = 21 := h (22, 21) (by decide)
theorem mr_23 {S : MS} (h : MR S) : gR S 0 23 = 22 := h (23, 22) (by decide)
theorem mr_24 {S : MS} (h : MR S) : gR S 0 24 = 23 := h (24, 23) (by decide)
theorem mr_25 {S : MS} (h : MR S) : gR S 0 25 = 24 := h (25, 24) (by decide)
theorem mr_40 {S : MS} (h : MR S) : gR S 0 40 = 25 := h (40, 25) (by decide)
theorem mr_41 {S : MS} (h : MR S) : gR S 0 41 = 26 := h (41, 26) (by decide)
theorem mr_43 {S : MS} (h : MR S) : gR S 0 43 = 27 := h (43, 27) (by decide)
theorem mr_44 {S : MS} (h : MR S) : gR S 0 44 = 28 := h (44, 28) (by decide)
theorem mr_45 {S : MS} (h : MR S) : gR S 0 45 = 29 := h (45, 29) (by decide)
theorem mr_46 {S : MS} (h : MR S) : gR S 0 46 = 30 := h (46, 30) (by decide)
theorem mr_47 {S : MS} (h : MR S) : gR S 0 47 = 31 := h (47, 31) (by decide)
theorem mr_48 {S : MS} (h : MR S) : gR S 0 48 = 32 := h (48, 32) (by decide)
theorem mr_49 {S : MS} (h : MR S) : gR S 0 49 = 33 := h (49, 33) (by decide)
theorem mr_50 {S : MS} (h : MR S) : gR S 0 50 = 34 := h (50, 34) (by decide)
theorem mr_51 {S : MS} (h : MR S) : gR S 0 51 = 35 := h (51, 35) (by decide)
theorem mr_52 {S : MS} (h : MR S) : gR S 0 52 = 36 := h (52, 36) (by decide)
theorem mr_53 {S : MS} (h : MR S) : gR S 0 53 = 37 := h (53, 37) (by decide)
theorem mr_54 {S : MS} (h : MR S) : gR S 0 54 = 38 := h (54, 38) (by decide)
theorem mr_62 {S : MS} (h : MR S) : gR S 0 62 = 39 := h (62, 39) (by decide)
theorem mr_63 {S : MS} (h : MR S) : gR S 0 63 = 40 := h (63, 40) (by decide)
theorem mr_64 {S : MS} (h : MR S) : gR S 0 64 = 41 := h (64, 41) (by decide)
theorem mr_68 {S : MS} (h : MR S) : gR S 0 68 = 42 := h (68, 42) (by decide)
theorem mr_69 {S : MS} (h : MR S) : gR S 0 69 = 43 := h (69, 43) (by decide)
theorem mr_70 {S : MS} (h : MR S) : gR S 0 70 = 44 := h (70, 44) (by decide)
theorem mr_71 {S : MS} (h : MR S) : gR S 0 71 = 45 := h (71, 45) (by decide)
theorem mr_72 {S : MS} (h : MR S) : gR S 0 72 = 46 := h (72, 46) (by decide)
theorem mr_73 {S : MS} (h : MR S) : gR S 0 73 = 47 := h (73, 47) (by decide)
theorem lm_1 : lnM 1 = 700 := rfl
theorem lm_2 : lnM 2 = 26 := rfl
theorem lm_3 : lnM 3 = 16 := rfl
theorem lm_4 : lnM 4 = 12 := rfl
theorem lm_5 : lnM 5 = 12 := rfl
theorem lm_6 : lnM 6 = 12 := rfl
theorem lm_7 : lnM 7 = 8 := rfl
theorem lm_8 : lnM 8 = 8 := rfl
theorem lm_9 : lnM 9 = 8 := rfl
theorem lm_10 : lnM 10 = 8 := rfl
theorem lm_11 : lnM 11 = 24 := rfl
theorem lm_12 : lnM 12 = 24 := rfl
theorem lm_13 : lnM 13 = 16 := rfl
theorem lm_14 : lnM 14 = 16 := rfl
theorem lm_15 : lnM 15 = 16 := rfl
theorem lm_16 : lnM 16 = 16 := rfl
theorem lm_17 : lnM 17 = 16 := rfl
theorem lm_18 : lnM 18 = 8 := rfl
theorem lm_19 : lnM 19 = 8 := rfl
theorem lm_20 : lnM 20 = 8 := rfl
theorem lm_21 : lnM 21 = 6 := rfl
theorem lm_22 : lnM 22 = 6 := rfl
theorem lm_23 : lnM 23 = 128 := rfl
theorem lm_24 : lnM 24 = 128 := rfl
theorem lm_25 : lnM 25 = 7 := rfl
theorem lm_26 : lnM 26 = 64 := rfl
theorem lm_27 : lnM 27 = 23 := rfl
theorem lm_28 : lnM 28 = 23 := rfl
theorem lm_29 : lnM 29 = 23 := rfl
theorem lm_30 : lnM 30 = 23 := rfl
theorem lm_31 : lnM 31 = 23 := rfl
theorem lm_32 : lnM 32 = 23 := rfl
theorem lm_33 : lnM 33 = 23 := rfl
theorem lm_34 : lnM 34 = 23 := rfl
theorem lm_35 : lnM 35 = 23 := rfl
theorem lm_36 : lnM 36 = 92 := rfl
theorem lm_37 : lnM 37 = 92 := rfl
theorem lm_38 : lnM 38 = 92 := rfl
theorem lm_39 : lnM 39 = 64 := rfl
theorem lm_40 : lnM 40 = 4 := rfl
theorem lm_41 : lnM 41 = 4 := rfl
theorem lm_42 : lnM 42 = 24 := rfl
theorem lm_43 : lnM 43 = 24 := rfl
theorem lm_44 : lnM 44 = 24 := rfl
theorem lm_45 : lnM 45 = 24 := rfl
theorem lm_46 : lnM 46 = 24 := rfl
theorem lm_47 : lnM 47 = 24 := rfl
