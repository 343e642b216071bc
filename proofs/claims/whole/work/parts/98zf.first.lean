/-! ===== both at the first sign of a text ===== -/
theorem FG.z {SX SM : MS} (z : gI SM 0 27 = 0) (x : ∀ j, 13 ≤ j → j ≤ 15 → gI SX 48 j = 0) : FG SX SM (fun _ => 0) := by
  have nt : ∀ w, w < 32 → ¬ tbit SM w := fun w hw => by
    unfold tbit
    rw [z]; exact z_dec w hw
  refine ⟨fun k hk => ⟨fun q => absurd q (nt _ (by omega)), fun q => absurd rfl q⟩, ?_, ?_, ?_⟩
  · exact ⟨fun _ => nt 1 (by decide), fun _ => x 13 (by decide) (by decide)⟩
  · exact ⟨fun _ => nt 8 (by decide), fun _ => x 14 (by decide) (by decide)⟩
  · exact ⟨fun _ => nt 9 (by decide), fun _ => x 15 (by decide) (by decide)⟩
theorem text_first {t n nt : Nat} {SX SM : MS} (hR : RX t SX) (hK : KX SX) (hM : MR SM) (n1 : n ≤ nt) (n7 : nt ≤ 700) (x12 : gI SX 0 12 = nI nt) (m2 : gI SM 0 2 = nI nt) (hb : ∀ k, k < nt → BY (gI SX 1 k) (gI SM 1 k)) :
    ∃ A B a e, fX10_text 0 (nI n) SX = fX10_text_38 1000 0 (nI n) (nI 0) A ∧ fX11_text 0 (nI n) SM = fX11_text_131 1000 0 B ∧ JO t n (btM SM) a e A B ∧ BD (27 - t) A B 5 5 0 0 0 (fun _ => 0) 0 0 0 (fun _ => 0) 0 ∧ BGX (27 - t) SX A ∧ Fr BGM SM B ∧ gI A 0 12 = 0 ∧ gI B 0 2 = 0 := by
  have ht := hR.1
  have hu : isT (27 - t) := by unfold isT at *; omega
  have hu' := hu
  unfold isT at hu'
  obtain ⟨A, a1, a2, a3, a4, a5, a6, a7, a8, a9, a10, a11, a12, a13, a14, a15⟩ := X_start hR hK n1 n7 x12
  obtain ⟨B, b1, b2, b3, b4, b5, b6, b7, b8, b9, b10⟩ := M_start hM n1 n7 m2
  generalize hU : 27 - t = u at *
  have byt : ∀ i, i < n → btM SM i < 256 ∧ gI SX 1 i = sb (btM SM i) ∧ gI SM 1 i = nI (btM SM i) := fun i hi => by
    obtain ⟨b, q1, q2, q3⟩ := hb i (by omega)
    have e : btM SM i = b := by
      unfold btM
      rw [if_pos (by omega), q2, nI_clamp (by omega)]
    rw [e]
    exact ⟨q1, q3, q2⟩
  have xl : XL t n (btM SM) A := by
    refine ⟨hR.rs a2.1, fun q hq => (a2.2 _ _ (kCB hu q hq)).trans (hK q hq), a3, a5, by omega, fun i hi => ⟨(byt i hi).1, ?_⟩⟩
    rw [a2.2 _ _ (fun hp => by unfold PD at hp; omega)]
    exact (byt i hi).2.1
  have ml : ML n (btM SM) B := by
    refine ⟨hM.of b2.1, b3, by omega, fun i hi => ⟨(byt i hi).1, ?_⟩⟩
    rw [b2.2 _ _ (fun hp => by unfold BGM QFM at hp; omega)]
    exact (byt i hi).2.2
  obtain ⟨A1, B1, a, e, c1, c2, c3, c4, c5, c6, c7, c8, c9, c10, c11, c12, c13⟩ := next_ok (p := 0) xl ml a6 b5 (Nat.zero_le _)
  have jo : JO t n (btM SM) a e A1 B1 := by
    refine ⟨xl.fr c3, ml.fr c4, ?_, ?_, c6, c7, c8, c9, ⟨c11, by rw [btM0]; exact Nat.zero_le _, ?_, ?_⟩, c12, c13⟩
    · rw [c3.2 _ _ (fun hp => by unfold NX at hp; omega)]; exact a14 16 (by decide) (by decide) (by decide)
    · rw [c4.2 _ _ (fun hp => by unfold NM at hp; omega)]; exact b6
    · rw [c3.2 _ _ (fun hp => by unfold NX at hp; omega)]; exact a15
    · rw [c4.2 _ _ (fun hp => by unfold NM at hp; omega)]; exact b7
  have bc : BC u A B 5 5 0 0 0 (fun _ => 0) 0 0 0 (fun _ => 0) 0 := by
    have m2' : ∀ j, 2 ≤ j → j < 13 → gI B 2 (13 + j) = 0 := fun j j1 j2 => by rw [b8 j j2, if_neg (by omega)]
    refine ⟨⟨a4, a11, b8 0 (by decide), by decide, by decide, a12, b8 1 (by decide), by decide, by decide⟩, ⟨a13 10 (by decide) (by decide), m2' 2 (by decide) (by decide), by decide, a13 11 (by decide) (by decide), m2' 3 (by decide) (by decide), by decide⟩, ⟨by decide, a13 12 (by decide) (by decide), m2' 4 (by decide) (by decide), fun c hc => ?_⟩, fun q hq => ⟨Nat.zero_le _, a9 q hq, ?_, fun i hi => absurd hi (Nat.not_lt_zero _)⟩, ⟨fun h hh => ?_, fun i j hi => absurd hi (Nat.not_lt_zero _)⟩, ⟨a13 13 (by decide) (by decide), m2' 10 (by decide) (by decide), by decide⟩, ⟨a13 14 (by decide) (by decide), m2' 11 (by decide) (by decide), by decide⟩, ⟨a13 15 (by decide) (by decide), b10 39 (by decide), m2' 12 (by decide) (by decide), by decide, b10 38 (by decide), fun i hi => absurd hi (Nat.not_lt_zero _)⟩, fun k hk => ⟨Nat.zero_le 64, a10 k hk, 0, (b9 (3 + k) (by omega) (by omega)).1, (b9 (3 + k) (by omega) (by omega)).2, Nat.le_refl 0, rfl, fun i hi => absurd hi (Nat.not_lt_zero _), Or.inl rfl⟩, ⟨a14 18 (by decide) (by decide) (by decide), b10 28 (by decide)⟩⟩
    · rw [a8 c hc]
      exact ⟨fun q => absurd rfl q, fun ⟨k, k1, _⟩ => absurd k1 (Nat.not_lt_zero _)⟩
    · have := m2' (5 + q) (by omega) (by omega)
      rw [show 13 + (5 + q) = 18 + q by omega] at this
      exact this
    · rw [b10 26 (by decide)]
      exact ⟨fun q => absurd q (z_dec h (by omega)), fun ⟨k, k1, _⟩ => absurd k1 (Nat.not_lt_zero _)⟩
  have fg : FG A B (fun _ => 0) := FG.z (b10 27 (by decide)) (fun j j1 j2 => a14 j j1 (by omega) (by omega))
  refine ⟨A1, B1, a, e, by rw [a1, c1, Option.bind_some], by rw [b1, c2, Option.bind_some], jo, ⟨bc.wd hu c3 (c4.mo (fun _ _ q => Or.inl q)), fg.fr c3 c4 (fun j j1 j2 hp => by unfold NX at hp; omega) (fun hp => by unfold NM at hp; omega)⟩, ⟨fun o j h => ?_, fun o j h => ?_⟩, b2.tr (c4.mo (fun o j hp => Or.inl (NN_Q o j (NM_NN o j hp)))), ?_, ?_⟩
  · rw [c3.ref]; exact a2.1 o j h
  · rw [c3.2 _ _ (fun hp => h (Or.inl (NX_PD o j hp)))]; exact a2.2 o j h
  · rw [c3.2 _ _ (fun hp => by unfold NX at hp; omega)]; exact a7
  · rw [c4.2 _ _ (fun hp => by unfold NM at hp; omega)]; exact b4
