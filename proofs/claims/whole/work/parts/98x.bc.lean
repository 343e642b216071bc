/-! ===== what both have read: what each move keeps ===== -/
theorem BC.wd {u r c hr hc nw cl sd kn ln : Nat} {kq zl : Nat → Nat} {SX SM A B : MS} (h : BC u SX SM r c hr hc nw kq cl sd kn zl ln) (hu : isT u) (f : Fr NX SX A) (g : Fr (fun o j => NM o j ∨ (o = 0 ∧ j = 27)) SM B) : BC u A B r c hr hc nw kq cl sd kn zl ln := by
  obtain ⟨h1, h2, h3, h4, h5, h6, h7, h8, h9, h10⟩ := h
  unfold isT at hu
  refine ⟨?_, ?_, ?_, ?_, ?_, ?_, ?_, ?_, ?_, ?_⟩
  · exact h1.fr f g (fun hp => by unfold NX at hp; omega) (fun hp => by unfold NX at hp; omega) (fun hp => by unfold NM at hp; omega) (fun hp => by unfold NM at hp; omega)
  · exact h2.fr f g (fun hp => by unfold NX at hp; omega) (fun hp => by unfold NX at hp; omega) (fun hp => by unfold NM at hp; omega) (fun hp => by unfold NM at hp; omega)
  · exact h3.fr f g (fun hp => by unfold NX at hp; omega) (fun j => (fun hp => by unfold NX at hp; omega)) (fun hp => by unfold NM at hp; omega) (fun j => (fun hp => by unfold NM at hp; omega))
  · exact fun q hq => (h4 q hq).fr f g (fun hp => by unfold NX at hp; omega) (fun j => (fun hp => by unfold NX at hp; omega)) (fun hp => by have := mBq q hq; unfold NM at hp; omega) (fun c j hc => (fun hp => by have := mBq q hq; unfold NM at hp; omega))
  · exact h5.fr g (fun hp => by unfold NM at hp; omega) (fun j => (fun hp => by unfold NM at hp; omega))
  · exact ⟨by rw [f.2 _ _ (fun hp => by unfold NX at hp; omega)]; exact h6.1, by rw [g.2 _ _ (fun hp => by unfold NM at hp; omega)]; exact h6.2.1, h6.2.2⟩
  · exact ⟨by rw [f.2 _ _ (fun hp => by unfold NX at hp; omega)]; exact h7.1, by rw [g.2 _ _ (fun hp => by unfold NM at hp; omega)]; exact h7.2.1, h7.2.2⟩
  · exact h8.fr f g (fun hp => by unfold NX at hp; omega) (fun hp => by unfold NM at hp; omega) (fun hp => by unfold NM at hp; omega) (fun hp => by unfold NM at hp; omega) (fun j _ => (fun hp => by unfold NM at hp; omega)) (fun j _ => (fun hp => by unfold NM at hp; omega))
  · exact fun k hk => (h9 k hk).fr f g (Nat.le_refl _) (fun hp => by unfold NX at hp; omega) (fun j => (fun hp => by unfold NX at hp; omega)) (fun hp => by unfold NM at hp; omega) (fun hp => by unfold NM at hp; omega) (fun j _ => (fun hp => by unfold NM at hp; omega)) (fun j _ => (fun hp => by unfold NM at hp; omega))
  · exact ⟨by rw [f.2 _ _ (fun hp => by unfold NX at hp; omega)]; exact h10.1, by rw [g.2 _ _ (fun hp => by unfold NM at hp; omega)]; exact h10.2⟩
theorem BC.en {u r c hr hc nw cl sd kn ln : Nat} {kq zl : Nat → Nat} {SX SM A B : MS} (h : BC u SX SM r c hr hc nw kq cl sd kn zl ln) (hu : isT u) (f : Fr EX SX A) (g : Fr EM SM B) (x : gI A 48 18 = nI (ln + 1)) (m : gI B 0 28 = nI (ln + 1)) : BC u A B r c hr hc nw kq cl sd kn zl (ln + 1) := by
  obtain ⟨h1, h2, h3, h4, h5, h6, h7, h8, h9, h10⟩ := h
  unfold isT at hu
  refine ⟨?_, ?_, ?_, ?_, ?_, ?_, ?_, ?_, ?_, ?_⟩
  · exact h1.fr f g (fun hp => by unfold EX NY at hp; omega) (fun hp => by unfold EX NY at hp; omega) (fun hp => by unfold EM NN at hp; omega) (fun hp => by unfold EM NN at hp; omega)
  · exact h2.fr f g (fun hp => by unfold EX NY at hp; omega) (fun hp => by unfold EX NY at hp; omega) (fun hp => by unfold EM NN at hp; omega) (fun hp => by unfold EM NN at hp; omega)
  · exact h3.fr f g (fun hp => by unfold EX NY at hp; omega) (fun j => (fun hp => by unfold EX NY at hp; omega)) (fun hp => by unfold EM NN at hp; omega) (fun j => (fun hp => by unfold EM NN at hp; omega))
  · exact fun q hq => (h4 q hq).fr f g (fun hp => by unfold EX NY at hp; omega) (fun j => (fun hp => by unfold EX NY at hp; omega)) (fun hp => by have := mBq q hq; unfold EM NN at hp; omega) (fun c j hc => (fun hp => by have := mBq q hq; unfold EM NN at hp; omega))
  · exact h5.fr g (fun hp => by unfold EM NN at hp; omega) (fun j => (fun hp => by unfold EM NN at hp; omega))
  · exact ⟨by rw [f.2 _ _ (fun hp => by unfold EX NY at hp; omega)]; exact h6.1, by rw [g.2 _ _ (fun hp => by unfold EM NN at hp; omega)]; exact h6.2.1, h6.2.2⟩
  · exact ⟨by rw [f.2 _ _ (fun hp => by unfold EX NY at hp; omega)]; exact h7.1, by rw [g.2 _ _ (fun hp => by unfold EM NN at hp; omega)]; exact h7.2.1, h7.2.2⟩
  · exact h8.fr f g (fun hp => by unfold EX NY at hp; omega) (fun hp => by unfold EM NN at hp; omega) (fun hp => by unfold EM NN at hp; omega) (fun hp => by unfold EM NN at hp; omega) (fun j _ => (fun hp => by unfold EM NN at hp; omega)) (fun j _ => (fun hp => by unfold EM NN at hp; omega))
  · exact fun k hk => (h9 k hk).fr f g (Nat.le_refl _) (fun hp => by unfold EX NY at hp; omega) (fun j => (fun hp => by unfold EX NY at hp; omega)) (fun hp => by unfold EM NN at hp; omega) (fun hp => by unfold EM NN at hp; omega) (fun j _ => (fun hp => by unfold EM NN at hp; omega)) (fun j _ => (fun hp => by unfold EM NN at hp; omega))
  · exact ⟨x, m⟩
theorem BC.rm {u r c hr hc nw cl sd kn ln : Nat} {kq zl : Nat → Nat} {SX SM A B : MS} (h : BC u SX SM r c hr hc nw kq cl sd kn zl ln) (hu : isT u) (f : Fr (CFR u) SX A) (g : Fr (CFM 13 14) SM B) {r1 c1 : Nat} (n : RC u r1 c1 A B) : BC u A B r1 c1 hr hc nw kq cl sd kn zl ln := by
  obtain ⟨h1, h2, h3, h4, h5, h6, h7, h8, h9, h10⟩ := h
  unfold isT at hu
  refine ⟨?_, ?_, ?_, ?_, ?_, ?_, ?_, ?_, ?_, ?_⟩
  · exact n
  · exact h2.fr f g (fun hp => by unfold CFR NY at hp; omega) (fun hp => by unfold CFR NY at hp; omega) (fun hp => by unfold CFM NN at hp; omega) (fun hp => by unfold CFM NN at hp; omega)
  · exact h3.fr f g (fun hp => by unfold CFR NY at hp; omega) (fun j => (fun hp => by unfold CFR NY at hp; omega)) (fun hp => by unfold CFM NN at hp; omega) (fun j => (fun hp => by unfold CFM NN at hp; omega))
  · exact fun q hq => (h4 q hq).fr f g (fun hp => by unfold CFR NY at hp; omega) (fun j => (fun hp => by unfold CFR NY at hp; omega)) (fun hp => by have := mBq q hq; unfold CFM NN at hp; omega) (fun c j hc => (fun hp => by have := mBq q hq; unfold CFM NN at hp; omega))
  · exact h5.fr g (fun hp => by unfold CFM NN at hp; omega) (fun j => (fun hp => by unfold CFM NN at hp; omega))
  · exact ⟨by rw [f.2 _ _ (fun hp => by unfold CFR NY at hp; omega)]; exact h6.1, by rw [g.2 _ _ (fun hp => by unfold CFM NN at hp; omega)]; exact h6.2.1, h6.2.2⟩
  · exact ⟨by rw [f.2 _ _ (fun hp => by unfold CFR NY at hp; omega)]; exact h7.1, by rw [g.2 _ _ (fun hp => by unfold CFM NN at hp; omega)]; exact h7.2.1, h7.2.2⟩
  · exact h8.fr f g (fun hp => by unfold CFR NY at hp; omega) (fun hp => by unfold CFM NN at hp; omega) (fun hp => by unfold CFM NN at hp; omega) (fun hp => by unfold CFM NN at hp; omega) (fun j _ => (fun hp => by unfold CFM NN at hp; omega)) (fun j _ => (fun hp => by unfold CFM NN at hp; omega))
  · exact fun k hk => (h9 k hk).fr f g (Nat.le_refl _) (fun hp => by unfold CFR NY at hp; omega) (fun j => (fun hp => by unfold CFR NY at hp; omega)) (fun hp => by unfold CFM NN at hp; omega) (fun hp => by unfold CFM NN at hp; omega) (fun j _ => (fun hp => by unfold CFM NN at hp; omega)) (fun j _ => (fun hp => by unfold CFM NN at hp; omega))
  · exact ⟨by rw [f.2 _ _ (fun hp => by unfold CFR NY at hp; omega)]; exact h10.1, by rw [g.2 _ _ (fun hp => by unfold CFM NN at hp; omega)]; exact h10.2⟩
theorem BC.he {u r c hr hc nw cl sd kn ln : Nat} {kq zl : Nat → Nat} {SX SM A B : MS} (h : BC u SX SM r c hr hc nw kq cl sd kn zl ln) (hu : isT u) (f : Fr (CFX u 10 11) SX A) (g : Fr (CFM 15 16) SM B) {r1 c1 : Nat} (n : HR u r1 c1 A B) : BC u A B r c r1 c1 nw kq cl sd kn zl ln := by
  obtain ⟨h1, h2, h3, h4, h5, h6, h7, h8, h9, h10⟩ := h
  unfold isT at hu
  refine ⟨?_, ?_, ?_, ?_, ?_, ?_, ?_, ?_, ?_, ?_⟩
  · exact h1.fr f g (fun hp => by unfold CFX NY at hp; omega) (fun hp => by unfold CFX NY at hp; omega) (fun hp => by unfold CFM NN at hp; omega) (fun hp => by unfold CFM NN at hp; omega)
  · exact n
  · exact h3.fr f g (fun hp => by unfold CFX NY at hp; omega) (fun j => (fun hp => by unfold CFX NY at hp; omega)) (fun hp => by unfold CFM NN at hp; omega) (fun j => (fun hp => by unfold CFM NN at hp; omega))
  · exact fun q hq => (h4 q hq).fr f g (fun hp => by unfold CFX NY at hp; omega) (fun j => (fun hp => by unfold CFX NY at hp; omega)) (fun hp => by have := mBq q hq; unfold CFM NN at hp; omega) (fun c j hc => (fun hp => by have := mBq q hq; unfold CFM NN at hp; omega))
  · exact h5.fr g (fun hp => by unfold CFM NN at hp; omega) (fun j => (fun hp => by unfold CFM NN at hp; omega))
  · exact ⟨by rw [f.2 _ _ (fun hp => by unfold CFX NY at hp; omega)]; exact h6.1, by rw [g.2 _ _ (fun hp => by unfold CFM NN at hp; omega)]; exact h6.2.1, h6.2.2⟩
  · exact ⟨by rw [f.2 _ _ (fun hp => by unfold CFX NY at hp; omega)]; exact h7.1, by rw [g.2 _ _ (fun hp => by unfold CFM NN at hp; omega)]; exact h7.2.1, h7.2.2⟩
  · exact h8.fr f g (fun hp => by unfold CFX NY at hp; omega) (fun hp => by unfold CFM NN at hp; omega) (fun hp => by unfold CFM NN at hp; omega) (fun hp => by unfold CFM NN at hp; omega) (fun j _ => (fun hp => by unfold CFM NN at hp; omega)) (fun j _ => (fun hp => by unfold CFM NN at hp; omega))
  · exact fun k hk => (h9 k hk).fr f g (Nat.le_refl _) (fun hp => by unfold CFX NY at hp; omega) (fun j => (fun hp => by unfold CFX NY at hp; omega)) (fun hp => by unfold CFM NN at hp; omega) (fun hp => by unfold CFM NN at hp; omega) (fun j _ => (fun hp => by unfold CFM NN at hp; omega)) (fun j _ => (fun hp => by unfold CFM NN at hp; omega))
  · exact ⟨by rw [f.2 _ _ (fun hp => by unfold CFX NY at hp; omega)]; exact h10.1, by rw [g.2 _ _ (fun hp => by unfold CFM NN at hp; omega)]; exact h10.2⟩
theorem BC.wa {u r c hr hc nw cl sd kn ln : Nat} {kq zl : Nat → Nat} {SX SM A B : MS} (h : BC u SX SM r c hr hc nw kq cl sd kn zl ln) (hu : isT u) (f : Fr (WFX u) SX A) (g : Fr WFM SM B) (n : D3 u A B (nw + 1)) : BC u A B r c hr hc (nw + 1) kq cl sd kn zl ln := by
  obtain ⟨h1, h2, h3, h4, h5, h6, h7, h8, h9, h10⟩ := h
  unfold isT at hu
  refine ⟨?_, ?_, ?_, ?_, ?_, ?_, ?_, ?_, ?_, ?_⟩
  · exact h1.fr f g (fun hp => by unfold WFX NY at hp; omega) (fun hp => by unfold WFX NY at hp; omega) (fun hp => by unfold WFM NN at hp; omega) (fun hp => by unfold WFM NN at hp; omega)
  · exact h2.fr f g (fun hp => by unfold WFX NY at hp; omega) (fun hp => by unfold WFX NY at hp; omega) (fun hp => by unfold WFM NN at hp; omega) (fun hp => by unfold WFM NN at hp; omega)
  · exact n
  · exact fun q hq => (h4 q hq).fr f g (fun hp => by unfold WFX NY at hp; omega) (fun j => (fun hp => by unfold WFX NY at hp; omega)) (fun hp => by have := mBq q hq; unfold WFM NN at hp; omega) (fun c j hc => (fun hp => by have := mBq q hq; unfold WFM NN at hp; omega))
  · exact h5.fr g (fun hp => by unfold WFM NN at hp; omega) (fun j => (fun hp => by unfold WFM NN at hp; omega))
  · exact ⟨by rw [f.2 _ _ (fun hp => by unfold WFX NY at hp; omega)]; exact h6.1, by rw [g.2 _ _ (fun hp => by unfold WFM NN at hp; omega)]; exact h6.2.1, h6.2.2⟩
  · exact ⟨by rw [f.2 _ _ (fun hp => by unfold WFX NY at hp; omega)]; exact h7.1, by rw [g.2 _ _ (fun hp => by unfold WFM NN at hp; omega)]; exact h7.2.1, h7.2.2⟩
  · exact h8.fr f g (fun hp => by unfold WFX NY at hp; omega) (fun hp => by unfold WFM NN at hp; omega) (fun hp => by unfold WFM NN at hp; omega) (fun hp => by unfold WFM NN at hp; omega) (fun j _ => (fun hp => by unfold WFM NN at hp; omega)) (fun j _ => (fun hp => by unfold WFM NN at hp; omega))
  · exact fun k hk => (h9 k hk).fr f g (Nat.le_refl _) (fun hp => by unfold WFX NY at hp; omega) (fun j => (fun hp => by unfold WFX NY at hp; omega)) (fun hp => by unfold WFM NN at hp; omega) (fun hp => by unfold WFM NN at hp; omega) (fun j _ => (fun hp => by unfold WFM NN at hp; omega)) (fun j _ => (fun hp => by unfold WFM NN at hp; omega))
  · exact ⟨by rw [f.2 _ _ (fun hp => by unfold WFX NY at hp; omega)]; exact h10.1, by rw [g.2 _ _ (fun hp => by unfold WFM NN at hp; omega)]; exact h10.2⟩
theorem BC.cl {u r c hr hc nw cl sd kn ln : Nat} {kq zl : Nat → Nat} {SX SM A B : MS} (h : BC u SX SM r c hr hc nw kq cl sd kn zl ln) (hu : isT u) (f : Fr (CFX u 13 13) SX A) (g : Fr (CFM 23 23) SM B) {x : Nat} (n : gI A u 13 = nI x ∧ gI B 2 23 = nI x ∧ x ≤ 100) : BC u A B r c hr hc nw kq x sd kn zl ln := by
  obtain ⟨h1, h2, h3, h4, h5, h6, h7, h8, h9, h10⟩ := h
  unfold isT at hu
  refine ⟨?_, ?_, ?_, ?_, ?_, ?_, ?_, ?_, ?_, ?_⟩
  · exact h1.fr f g (fun hp => by unfold CFX NY at hp; omega) (fun hp => by unfold CFX NY at hp; omega) (fun hp => by unfold CFM NN at hp; omega) (fun hp => by unfold CFM NN at hp; omega)
  · exact h2.fr f g (fun hp => by unfold CFX NY at hp; omega) (fun hp => by unfold CFX NY at hp; omega) (fun hp => by unfold CFM NN at hp; omega) (fun hp => by unfold CFM NN at hp; omega)
  · exact h3.fr f g (fun hp => by unfold CFX NY at hp; omega) (fun j => (fun hp => by unfold CFX NY at hp; omega)) (fun hp => by unfold CFM NN at hp; omega) (fun j => (fun hp => by unfold CFM NN at hp; omega))
  · exact fun q hq => (h4 q hq).fr f g (fun hp => by unfold CFX NY at hp; omega) (fun j => (fun hp => by unfold CFX NY at hp; omega)) (fun hp => by have := mBq q hq; unfold CFM NN at hp; omega) (fun c j hc => (fun hp => by have := mBq q hq; unfold CFM NN at hp; omega))
  · exact h5.fr g (fun hp => by unfold CFM NN at hp; omega) (fun j => (fun hp => by unfold CFM NN at hp; omega))
  · exact n
  · exact ⟨by rw [f.2 _ _ (fun hp => by unfold CFX NY at hp; omega)]; exact h7.1, by rw [g.2 _ _ (fun hp => by unfold CFM NN at hp; omega)]; exact h7.2.1, h7.2.2⟩
  · exact h8.fr f g (fun hp => by unfold CFX NY at hp; omega) (fun hp => by unfold CFM NN at hp; omega) (fun hp => by unfold CFM NN at hp; omega) (fun hp => by unfold CFM NN at hp; omega) (fun j _ => (fun hp => by unfold CFM NN at hp; omega)) (fun j _ => (fun hp => by unfold CFM NN at hp; omega))
  · exact fun k hk => (h9 k hk).fr f g (Nat.le_refl _) (fun hp => by unfold CFX NY at hp; omega) (fun j => (fun hp => by unfold CFX NY at hp; omega)) (fun hp => by unfold CFM NN at hp; omega) (fun hp => by unfold CFM NN at hp; omega) (fun j _ => (fun hp => by unfold CFM NN at hp; omega)) (fun j _ => (fun hp => by unfold CFM NN at hp; omega))
  · exact ⟨by rw [f.2 _ _ (fun hp => by unfold CFX NY at hp; omega)]; exact h10.1, by rw [g.2 _ _ (fun hp => by unfold CFM NN at hp; omega)]; exact h10.2⟩
theorem BC.sd {u r c hr hc nw cl sd kn ln : Nat} {kq zl : Nat → Nat} {SX SM A B : MS} (h : BC u SX SM r c hr hc nw kq cl sd kn zl ln) (hu : isT u) (f : Fr (CFX u 14 14) SX A) (g : Fr (CFM 24 24) SM B) {x : Nat} (n : gI A u 14 = nI x ∧ gI B 2 24 = nI x ∧ x ≤ 99999) : BC u A B r c hr hc nw kq cl x kn zl ln := by
  obtain ⟨h1, h2, h3, h4, h5, h6, h7, h8, h9, h10⟩ := h
  unfold isT at hu
  refine ⟨?_, ?_, ?_, ?_, ?_, ?_, ?_, ?_, ?_, ?_⟩
  · exact h1.fr f g (fun hp => by unfold CFX NY at hp; omega) (fun hp => by unfold CFX NY at hp; omega) (fun hp => by unfold CFM NN at hp; omega) (fun hp => by unfold CFM NN at hp; omega)
  · exact h2.fr f g (fun hp => by unfold CFX NY at hp; omega) (fun hp => by unfold CFX NY at hp; omega) (fun hp => by unfold CFM NN at hp; omega) (fun hp => by unfold CFM NN at hp; omega)
  · exact h3.fr f g (fun hp => by unfold CFX NY at hp; omega) (fun j => (fun hp => by unfold CFX NY at hp; omega)) (fun hp => by unfold CFM NN at hp; omega) (fun j => (fun hp => by unfold CFM NN at hp; omega))
  · exact fun q hq => (h4 q hq).fr f g (fun hp => by unfold CFX NY at hp; omega) (fun j => (fun hp => by unfold CFX NY at hp; omega)) (fun hp => by have := mBq q hq; unfold CFM NN at hp; omega) (fun c j hc => (fun hp => by have := mBq q hq; unfold CFM NN at hp; omega))
  · exact h5.fr g (fun hp => by unfold CFM NN at hp; omega) (fun j => (fun hp => by unfold CFM NN at hp; omega))
  · exact ⟨by rw [f.2 _ _ (fun hp => by unfold CFX NY at hp; omega)]; exact h6.1, by rw [g.2 _ _ (fun hp => by unfold CFM NN at hp; omega)]; exact h6.2.1, h6.2.2⟩
  · exact n
  · exact h8.fr f g (fun hp => by unfold CFX NY at hp; omega) (fun hp => by unfold CFM NN at hp; omega) (fun hp => by unfold CFM NN at hp; omega) (fun hp => by unfold CFM NN at hp; omega) (fun j _ => (fun hp => by unfold CFM NN at hp; omega)) (fun j _ => (fun hp => by unfold CFM NN at hp; omega))
  · exact fun k hk => (h9 k hk).fr f g (Nat.le_refl _) (fun hp => by unfold CFX NY at hp; omega) (fun j => (fun hp => by unfold CFX NY at hp; omega)) (fun hp => by unfold CFM NN at hp; omega) (fun hp => by unfold CFM NN at hp; omega) (fun j _ => (fun hp => by unfold CFM NN at hp; omega)) (fun j _ => (fun hp => by unfold CFM NN at hp; omega))
  · exact ⟨by rw [f.2 _ _ (fun hp => by unfold CFX NY at hp; omega)]; exact h10.1, by rw [g.2 _ _ (fun hp => by unfold CFM NN at hp; omega)]; exact h10.2⟩
theorem BC.t0 {u r c hr hc nw cl sd kn ln : Nat} {kq zl : Nat → Nat} {SX SM A B : MS} (h : BC u SX SM r c hr hc nw kq cl sd kn zl ln) (hu : isT u) (f : Fr (LFX u 0) SX A) (g : Fr LFS SM B) (n : D2 u 0 A B (kq 0 + 1)) (ns : SU B (kq 0 + 1)) : BC u A B r c hr hc nw (fun i => if i = 0 then kq 0 + 1 else kq i) cl sd kn zl ln := by
  obtain ⟨h1, h2, h3, h4, h5, h6, h7, h8, h9, h10⟩ := h
  unfold isT at hu
  have b0 : mB 0 = 4 := rfl
  have w0 : wid 0 = 3 := rfl
  have m0 : mxq 0 = 6 := rfl
  have b1 : mB 1 = 7 := rfl
  have w1 : wid 1 = 4 := rfl
  have m1 : mxq 1 = 4 := rfl
  have b2 : mB 2 = 11 := rfl
  have w2 : wid 2 = 2 := rfl
  have m2 : mxq 2 = 12 := rfl
  have b3 : mB 3 = 13 := rfl
  have w3 : wid 3 = 5 := rfl
  have m3 : mxq 3 = 8 := rfl
  have b4 : mB 4 = 18 := rfl
  have w4 : wid 4 = 3 := rfl
  have m4 : mxq 4 = 4 := rfl
  refine ⟨?_, ?_, ?_, ?_, ?_, ?_, ?_, ?_, ?_, ?_⟩
  · exact h1.fr f g (fun hp => by unfold LFX NY at hp; omega) (fun hp => by unfold LFX NY at hp; omega) (fun hp => by unfold LFS LFM NN at hp; omega) (fun hp => by unfold LFS LFM NN at hp; omega)
  · exact h2.fr f g (fun hp => by unfold LFX NY at hp; omega) (fun hp => by unfold LFX NY at hp; omega) (fun hp => by unfold LFS LFM NN at hp; omega) (fun hp => by unfold LFS LFM NN at hp; omega)
  · exact h3.fr f g (fun hp => by unfold LFX NY at hp; omega) (fun j => (fun hp => by unfold LFX NY at hp; omega)) (fun hp => by unfold LFS LFM NN at hp; omega) (fun j => (fun hp => by unfold LFS LFM NN at hp; omega))
  · intro q hq
    rcases (by omega : q = 0 ∨ q = 1 ∨ q = 2 ∨ q = 3 ∨ q = 4) with rfl | rfl | rfl | rfl | rfl
    · exact n
    · exact (h4 1 (by decide)).fr f g (fun hp => by unfold LFX NY at hp; omega) (fun j => (fun hp => by unfold LFX NY at hp; omega)) (fun hp => by unfold LFS LFM NN at hp; omega) (fun c j hc => (fun hp => by unfold LFS LFM NN at hp; omega))
    · exact (h4 2 (by decide)).fr f g (fun hp => by unfold LFX NY at hp; omega) (fun j => (fun hp => by unfold LFX NY at hp; omega)) (fun hp => by unfold LFS LFM NN at hp; omega) (fun c j hc => (fun hp => by unfold LFS LFM NN at hp; omega))
    · exact (h4 3 (by decide)).fr f g (fun hp => by unfold LFX NY at hp; omega) (fun j => (fun hp => by unfold LFX NY at hp; omega)) (fun hp => by unfold LFS LFM NN at hp; omega) (fun c j hc => (fun hp => by unfold LFS LFM NN at hp; omega))
    · exact (h4 4 (by decide)).fr f g (fun hp => by unfold LFX NY at hp; omega) (fun j => (fun hp => by unfold LFX NY at hp; omega)) (fun hp => by unfold LFS LFM NN at hp; omega) (fun c j hc => (fun hp => by unfold LFS LFM NN at hp; omega))
  · exact ns
  · exact ⟨by rw [f.2 _ _ (fun hp => by unfold LFX NY at hp; omega)]; exact h6.1, by rw [g.2 _ _ (fun hp => by unfold LFS LFM NN at hp; omega)]; exact h6.2.1, h6.2.2⟩
  · exact ⟨by rw [f.2 _ _ (fun hp => by unfold LFX NY at hp; omega)]; exact h7.1, by rw [g.2 _ _ (fun hp => by unfold LFS LFM NN at hp; omega)]; exact h7.2.1, h7.2.2⟩
  · exact h8.fr f g (fun hp => by unfold LFX NY at hp; omega) (fun hp => by unfold LFS LFM NN at hp; omega) (fun hp => by unfold LFS LFM NN at hp; omega) (fun hp => by unfold LFS LFM NN at hp; omega) (fun j _ => (fun hp => by unfold LFS LFM NN at hp; omega)) (fun j _ => (fun hp => by unfold LFS LFM NN at hp; omega))
  · exact fun k hk => (h9 k hk).fr f g (Nat.le_refl _) (fun hp => by unfold LFX NY at hp; omega) (fun j => (fun hp => by unfold LFX NY at hp; omega)) (fun hp => by unfold LFS LFM NN at hp; omega) (fun hp => by unfold LFS LFM NN at hp; omega) (fun j _ => (fun hp => by unfold LFS LFM NN at hp; omega)) (fun j _ => (fun hp => by unfold LFS LFM NN at hp; omega))
  · exact ⟨by rw [f.2 _ _ (fun hp => by unfold LFX NY at hp; omega)]; exact h10.1, by rw [g.2 _ _ (fun hp => by unfold LFS LFM NN at hp; omega)]; exact h10.2⟩
theorem BC.t1 {u r c hr hc nw cl sd kn ln : Nat} {kq zl : Nat → Nat} {SX SM A B : MS} (h : BC u SX SM r c hr hc nw kq cl sd kn zl ln) (hu : isT u) (f : Fr (LFX u 1) SX A) (g : Fr (LFM 1) SM B) (n : D2 u 1 A B (kq 1 + 1)) : BC u A B r c hr hc nw (fun i => if i = 1 then kq 1 + 1 else kq i) cl sd kn zl ln := by
  obtain ⟨h1, h2, h3, h4, h5, h6, h7, h8, h9, h10⟩ := h
  unfold isT at hu
  have b0 : mB 0 = 4 := rfl
  have w0 : wid 0 = 3 := rfl
  have m0 : mxq 0 = 6 := rfl
  have b1 : mB 1 = 7 := rfl
  have w1 : wid 1 = 4 := rfl
  have m1 : mxq 1 = 4 := rfl
  have b2 : mB 2 = 11 := rfl
  have w2 : wid 2 = 2 := rfl
  have m2 : mxq 2 = 12 := rfl
  have b3 : mB 3 = 13 := rfl
  have w3 : wid 3 = 5 := rfl
  have m3 : mxq 3 = 8 := rfl
  have b4 : mB 4 = 18 := rfl
  have w4 : wid 4 = 3 := rfl
  have m4 : mxq 4 = 4 := rfl
  refine ⟨?_, ?_, ?_, ?_, ?_, ?_, ?_, ?_, ?_, ?_⟩
  · exact h1.fr f g (fun hp => by unfold LFX NY at hp; omega) (fun hp => by unfold LFX NY at hp; omega) (fun hp => by unfold LFM NN at hp; omega) (fun hp => by unfold LFM NN at hp; omega)
  · exact h2.fr f g (fun hp => by unfold LFX NY at hp; omega) (fun hp => by unfold LFX NY at hp; omega) (fun hp => by unfold LFM NN at hp; omega) (fun hp => by unfold LFM NN at hp; omega)
  · exact h3.fr f g (fun hp => by unfold LFX NY at hp; omega) (fun j => (fun hp => by unfold LFX NY at hp; omega)) (fun hp => by unfold LFM NN at hp; omega) (fun j => (fun hp => by unfold LFM NN at hp; omega))
  · intro q hq
    rcases (by omega : q = 0 ∨ q = 1 ∨ q = 2 ∨ q = 3 ∨ q = 4) with rfl | rfl | rfl | rfl | rfl
    · exact (h4 0 (by decide)).fr f g (fun hp => by unfold LFX NY at hp; omega) (fun j => (fun hp => by unfold LFX NY at hp; omega)) (fun hp => by unfold LFM NN at hp; omega) (fun c j hc => (fun hp => by unfold LFM NN at hp; omega))
    · exact n
    · exact (h4 2 (by decide)).fr f g (fun hp => by unfold LFX NY at hp; omega) (fun j => (fun hp => by unfold LFX NY at hp; omega)) (fun hp => by unfold LFM NN at hp; omega) (fun c j hc => (fun hp => by unfold LFM NN at hp; omega))
    · exact (h4 3 (by decide)).fr f g (fun hp => by unfold LFX NY at hp; omega) (fun j => (fun hp => by unfold LFX NY at hp; omega)) (fun hp => by unfold LFM NN at hp; omega) (fun c j hc => (fun hp => by unfold LFM NN at hp; omega))
    · exact (h4 4 (by decide)).fr f g (fun hp => by unfold LFX NY at hp; omega) (fun j => (fun hp => by unfold LFX NY at hp; omega)) (fun hp => by unfold LFM NN at hp; omega) (fun c j hc => (fun hp => by unfold LFM NN at hp; omega))
  · exact h5.fr g (fun hp => by unfold LFM NN at hp; omega) (fun j => (fun hp => by unfold LFM NN at hp; omega))
  · exact ⟨by rw [f.2 _ _ (fun hp => by unfold LFX NY at hp; omega)]; exact h6.1, by rw [g.2 _ _ (fun hp => by unfold LFM NN at hp; omega)]; exact h6.2.1, h6.2.2⟩
  · exact ⟨by rw [f.2 _ _ (fun hp => by unfold LFX NY at hp; omega)]; exact h7.1, by rw [g.2 _ _ (fun hp => by unfold LFM NN at hp; omega)]; exact h7.2.1, h7.2.2⟩
  · exact h8.fr f g (fun hp => by unfold LFX NY at hp; omega) (fun hp => by unfold LFM NN at hp; omega) (fun hp => by unfold LFM NN at hp; omega) (fun hp => by unfold LFM NN at hp; omega) (fun j _ => (fun hp => by unfold LFM NN at hp; omega)) (fun j _ => (fun hp => by unfold LFM NN at hp; omega))
  · exact fun k hk => (h9 k hk).fr f g (Nat.le_refl _) (fun hp => by unfold LFX NY at hp; omega) (fun j => (fun hp => by unfold LFX NY at hp; omega)) (fun hp => by unfold LFM NN at hp; omega) (fun hp => by unfold LFM NN at hp; omega) (fun j _ => (fun hp => by unfold LFM NN at hp; omega)) (fun j _ => (fun hp => by unfold LFM NN at hp; omega))
  · exact ⟨by rw [f.2 _ _ (fun hp => by unfold LFX NY at hp; omega)]; exact h10.1, by rw [g.2 _ _ (fun hp => by unfold LFM NN at hp; omega)]; exact h10.2⟩
theorem BC.t2 {u r c hr hc nw cl sd kn ln : Nat} {kq zl : Nat → Nat} {SX SM A B : MS} (h : BC u SX SM r c hr hc nw kq cl sd kn zl ln) (hu : isT u) (f : Fr (LFX u 2) SX A) (g : Fr (LFM 2) SM B) (n : D2 u 2 A B (kq 2 + 1)) : BC u A B r c hr hc nw (fun i => if i = 2 then kq 2 + 1 else kq i) cl sd kn zl ln := by
  obtain ⟨h1, h2, h3, h4, h5, h6, h7, h8, h9, h10⟩ := h
  unfold isT at hu
  have b0 : mB 0 = 4 := rfl
  have w0 : wid 0 = 3 := rfl
  have m0 : mxq 0 = 6 := rfl
  have b1 : mB 1 = 7 := rfl
  have w1 : wid 1 = 4 := rfl
  have m1 : mxq 1 = 4 := rfl
  have b2 : mB 2 = 11 := rfl
  have w2 : wid 2 = 2 := rfl
  have m2 : mxq 2 = 12 := rfl
  have b3 : mB 3 = 13 := rfl
  have w3 : wid 3 = 5 := rfl
  have m3 : mxq 3 = 8 := rfl
  have b4 : mB 4 = 18 := rfl
  have w4 : wid 4 = 3 := rfl
  have m4 : mxq 4 = 4 := rfl
  refine ⟨?_, ?_, ?_, ?_, ?_, ?_, ?_, ?_, ?_, ?_⟩
  · exact h1.fr f g (fun hp => by unfold LFX NY at hp; omega) (fun hp => by unfold LFX NY at hp; omega) (fun hp => by unfold LFM NN at hp; omega) (fun hp => by unfold LFM NN at hp; omega)
  · exact h2.fr f g (fun hp => by unfold LFX NY at hp; omega) (fun hp => by unfold LFX NY at hp; omega) (fun hp => by unfold LFM NN at hp; omega) (fun hp => by unfold LFM NN at hp; omega)
  · exact h3.fr f g (fun hp => by unfold LFX NY at hp; omega) (fun j => (fun hp => by unfold LFX NY at hp; omega)) (fun hp => by unfold LFM NN at hp; omega) (fun j => (fun hp => by unfold LFM NN at hp; omega))
  · intro q hq
    rcases (by omega : q = 0 ∨ q = 1 ∨ q = 2 ∨ q = 3 ∨ q = 4) with rfl | rfl | rfl | rfl | rfl
    · exact (h4 0 (by decide)).fr f g (fun hp => by unfold LFX NY at hp; omega) (fun j => (fun hp => by unfold LFX NY at hp; omega)) (fun hp => by unfold LFM NN at hp; omega) (fun c j hc => (fun hp => by unfold LFM NN at hp; omega))
    · exact (h4 1 (by decide)).fr f g (fun hp => by unfold LFX NY at hp; omega) (fun j => (fun hp => by unfold LFX NY at hp; omega)) (fun hp => by unfold LFM NN at hp; omega) (fun c j hc => (fun hp => by unfold LFM NN at hp; omega))
    · exact n
    · exact (h4 3 (by decide)).fr f g (fun hp => by unfold LFX NY at hp; omega) (fun j => (fun hp => by unfold LFX NY at hp; omega)) (fun hp => by unfold LFM NN at hp; omega) (fun c j hc => (fun hp => by unfold LFM NN at hp; omega))
    · exact (h4 4 (by decide)).fr f g (fun hp => by unfold LFX NY at hp; omega) (fun j => (fun hp => by unfold LFX NY at hp; omega)) (fun hp => by unfold LFM NN at hp; omega) (fun c j hc => (fun hp => by unfold LFM NN at hp; omega))
  · exact h5.fr g (fun hp => by unfold LFM NN at hp; omega) (fun j => (fun hp => by unfold LFM NN at hp; omega))
  · exact ⟨by rw [f.2 _ _ (fun hp => by unfold LFX NY at hp; omega)]; exact h6.1, by rw [g.2 _ _ (fun hp => by unfold LFM NN at hp; omega)]; exact h6.2.1, h6.2.2⟩
  · exact ⟨by rw [f.2 _ _ (fun hp => by unfold LFX NY at hp; omega)]; exact h7.1, by rw [g.2 _ _ (fun hp => by unfold LFM NN at hp; omega)]; exact h7.2.1, h7.2.2⟩
  · exact h8.fr f g (fun hp => by unfold LFX NY at hp; omega) (fun hp => by unfold LFM NN at hp; omega) (fun hp => by unfold LFM NN at hp; omega) (fun hp => by unfold LFM NN at hp; omega) (fun j _ => (fun hp => by unfold LFM NN at hp; omega)) (fun j _ => (fun hp => by unfold LFM NN at hp; omega))
  · exact fun k hk => (h9 k hk).fr f g (Nat.le_refl _) (fun hp => by unfold LFX NY at hp; omega) (fun j => (fun hp => by unfold LFX NY at hp; omega)) (fun hp => by unfold LFM NN at hp; omega) (fun hp => by unfold LFM NN at hp; omega) (fun j _ => (fun hp => by unfold LFM NN at hp; omega)) (fun j _ => (fun hp => by unfold LFM NN at hp; omega))
  · exact ⟨by rw [f.2 _ _ (fun hp => by unfold LFX NY at hp; omega)]; exact h10.1, by rw [g.2 _ _ (fun hp => by unfold LFM NN at hp; omega)]; exact h10.2⟩
theorem BC.t3 {u r c hr hc nw cl sd kn ln : Nat} {kq zl : Nat → Nat} {SX SM A B : MS} (h : BC u SX SM r c hr hc nw kq cl sd kn zl ln) (hu : isT u) (f : Fr (LFX u 3) SX A) (g : Fr (LFM 3) SM B) (n : D2 u 3 A B (kq 3 + 1)) : BC u A B r c hr hc nw (fun i => if i = 3 then kq 3 + 1 else kq i) cl sd kn zl ln := by
  obtain ⟨h1, h2, h3, h4, h5, h6, h7, h8, h9, h10⟩ := h
  unfold isT at hu
  have b0 : mB 0 = 4 := rfl
  have w0 : wid 0 = 3 := rfl
  have m0 : mxq 0 = 6 := rfl
  have b1 : mB 1 = 7 := rfl
  have w1 : wid 1 = 4 := rfl
  have m1 : mxq 1 = 4 := rfl
  have b2 : mB 2 = 11 := rfl
  have w2 : wid 2 = 2 := rfl
  have m2 : mxq 2 = 12 := rfl
  have b3 : mB 3 = 13 := rfl
  have w3 : wid 3 = 5 := rfl
  have m3 : mxq 3 = 8 := rfl
  have b4 : mB 4 = 18 := rfl
  have w4 : wid 4 = 3 := rfl
  have m4 : mxq 4 = 4 := rfl
  refine ⟨?_, ?_, ?_, ?_, ?_, ?_, ?_, ?_, ?_, ?_⟩
  · exact h1.fr f g (fun hp => by unfold LFX NY at hp; omega) (fun hp => by unfold LFX NY at hp; omega) (fun hp => by unfold LFM NN at hp; omega) (fun hp => by unfold LFM NN at hp; omega)
  · exact h2.fr f g (fun hp => by unfold LFX NY at hp; omega) (fun hp => by unfold LFX NY at hp; omega) (fun hp => by unfold LFM NN at hp; omega) (fun hp => by unfold LFM NN at hp; omega)
  · exact h3.fr f g (fun hp => by unfold LFX NY at hp; omega) (fun j => (fun hp => by unfold LFX NY at hp; omega)) (fun hp => by unfold LFM NN at hp; omega) (fun j => (fun hp => by unfold LFM NN at hp; omega))
  · intro q hq
    rcases (by omega : q = 0 ∨ q = 1 ∨ q = 2 ∨ q = 3 ∨ q = 4) with rfl | rfl | rfl | rfl | rfl
    · exact (h4 0 (by decide)).fr f g (fun hp => by unfold LFX NY at hp; omega) (fun j => (fun hp => by unfold LFX NY at hp; omega)) (fun hp => by unfold LFM NN at hp; omega) (fun c j hc => (fun hp => by unfold LFM NN at hp; omega))
    · exact (h4 1 (by decide)).fr f g (fun hp => by unfold LFX NY at hp; omega) (fun j => (fun hp => by unfold LFX NY at hp; omega)) (fun hp => by unfold LFM NN at hp; omega) (fun c j hc => (fun hp => by unfold LFM NN at hp; omega))
    · exact (h4 2 (by decide)).fr f g (fun hp => by unfold LFX NY at hp; omega) (fun j => (fun hp => by unfold LFX NY at hp; omega)) (fun hp => by unfold LFM NN at hp; omega) (fun c j hc => (fun hp => by unfold LFM NN at hp; omega))
    · exact n
    · exact (h4 4 (by decide)).fr f g (fun hp => by unfold LFX NY at hp; omega) (fun j => (fun hp => by unfold LFX NY at hp; omega)) (fun hp => by unfold LFM NN at hp; omega) (fun c j hc => (fun hp => by unfold LFM NN at hp; omega))
  · exact h5.fr g (fun hp => by unfold LFM NN at hp; omega) (fun j => (fun hp => by unfold LFM NN at hp; omega))
  · exact ⟨by rw [f.2 _ _ (fun hp => by unfold LFX NY at hp; omega)]; exact h6.1, by rw [g.2 _ _ (fun hp => by unfold LFM NN at hp; omega)]; exact h6.2.1, h6.2.2⟩
  · exact ⟨by rw [f.2 _ _ (fun hp => by unfold LFX NY at hp; omega)]; exact h7.1, by rw [g.2 _ _ (fun hp => by unfold LFM NN at hp; omega)]; exact h7.2.1, h7.2.2⟩
  · exact h8.fr f g (fun hp => by unfold LFX NY at hp; omega) (fun hp => by unfold LFM NN at hp; omega) (fun hp => by unfold LFM NN at hp; omega) (fun hp => by unfold LFM NN at hp; omega) (fun j _ => (fun hp => by unfold LFM NN at hp; omega)) (fun j _ => (fun hp => by unfold LFM NN at hp; omega))
  · exact fun k hk => (h9 k hk).fr f g (Nat.le_refl _) (fun hp => by unfold LFX NY at hp; omega) (fun j => (fun hp => by unfold LFX NY at hp; omega)) (fun hp => by unfold LFM NN at hp; omega) (fun hp => by unfold LFM NN at hp; omega) (fun j _ => (fun hp => by unfold LFM NN at hp; omega)) (fun j _ => (fun hp => by unfold LFM NN at hp; omega))
  · exact ⟨by rw [f.2 _ _ (fun hp => by unfold LFX NY at hp; omega)]; exact h10.1, by rw [g.2 _ _ (fun hp => by unfold LFM NN at hp; omega)]; exact h10.2⟩
theorem BC.t4 {u r c hr hc nw cl sd kn ln : Nat} {kq zl : Nat → Nat} {SX SM A B : MS} (h : BC u SX SM r c hr hc nw kq cl sd kn zl ln) (hu : isT u) (f : Fr (LFX u 4) SX A) (g : Fr (LFM 4) SM B) (n : D2 u 4 A B (kq 4 + 1)) : BC u A B r c hr hc nw (fun i => if i = 4 then kq 4 + 1 else kq i) cl sd kn zl ln := by
  obtain ⟨h1, h2, h3, h4, h5, h6, h7, h8, h9, h10⟩ := h
  unfold isT at hu
  have b0 : mB 0 = 4 := rfl
  have w0 : wid 0 = 3 := rfl
  have m0 : mxq 0 = 6 := rfl
  have b1 : mB 1 = 7 := rfl
  have w1 : wid 1 = 4 := rfl
  have m1 : mxq 1 = 4 := rfl
  have b2 : mB 2 = 11 := rfl
  have w2 : wid 2 = 2 := rfl
  have m2 : mxq 2 = 12 := rfl
  have b3 : mB 3 = 13 := rfl
  have w3 : wid 3 = 5 := rfl
  have m3 : mxq 3 = 8 := rfl
  have b4 : mB 4 = 18 := rfl
  have w4 : wid 4 = 3 := rfl
  have m4 : mxq 4 = 4 := rfl
  refine ⟨?_, ?_, ?_, ?_, ?_, ?_, ?_, ?_, ?_, ?_⟩
  · exact h1.fr f g (fun hp => by unfold LFX NY at hp; omega) (fun hp => by unfold LFX NY at hp; omega) (fun hp => by unfold LFM NN at hp; omega) (fun hp => by unfold LFM NN at hp; omega)
  · exact h2.fr f g (fun hp => by unfold LFX NY at hp; omega) (fun hp => by unfold LFX NY at hp; omega) (fun hp => by unfold LFM NN at hp; omega) (fun hp => by unfold LFM NN at hp; omega)
  · exact h3.fr f g (fun hp => by unfold LFX NY at hp; omega) (fun j => (fun hp => by unfold LFX NY at hp; omega)) (fun hp => by unfold LFM NN at hp; omega) (fun j => (fun hp => by unfold LFM NN at hp; omega))
  · intro q hq
    rcases (by omega : q = 0 ∨ q = 1 ∨ q = 2 ∨ q = 3 ∨ q = 4) with rfl | rfl | rfl | rfl | rfl
    · exact (h4 0 (by decide)).fr f g (fun hp => by unfold LFX NY at hp; omega) (fun j => (fun hp => by unfold LFX NY at hp; omega)) (fun hp => by unfold LFM NN at hp; omega) (fun c j hc => (fun hp => by unfold LFM NN at hp; omega))
    · exact (h4 1 (by decide)).fr f g (fun hp => by unfold LFX NY at hp; omega) (fun j => (fun hp => by unfold LFX NY at hp; omega)) (fun hp => by unfold LFM NN at hp; omega) (fun c j hc => (fun hp => by unfold LFM NN at hp; omega))
    · exact (h4 2 (by decide)).fr f g (fun hp => by unfold LFX NY at hp; omega) (fun j => (fun hp => by unfold LFX NY at hp; omega)) (fun hp => by unfold LFM NN at hp; omega) (fun c j hc => (fun hp => by unfold LFM NN at hp; omega))
    · exact (h4 3 (by decide)).fr f g (fun hp => by unfold LFX NY at hp; omega) (fun j => (fun hp => by unfold LFX NY at hp; omega)) (fun hp => by unfold LFM NN at hp; omega) (fun c j hc => (fun hp => by unfold LFM NN at hp; omega))
    · exact n
  · exact h5.fr g (fun hp => by unfold LFM NN at hp; omega) (fun j => (fun hp => by unfold LFM NN at hp; omega))
  · exact ⟨by rw [f.2 _ _ (fun hp => by unfold LFX NY at hp; omega)]; exact h6.1, by rw [g.2 _ _ (fun hp => by unfold LFM NN at hp; omega)]; exact h6.2.1, h6.2.2⟩
  · exact ⟨by rw [f.2 _ _ (fun hp => by unfold LFX NY at hp; omega)]; exact h7.1, by rw [g.2 _ _ (fun hp => by unfold LFM NN at hp; omega)]; exact h7.2.1, h7.2.2⟩
  · exact h8.fr f g (fun hp => by unfold LFX NY at hp; omega) (fun hp => by unfold LFM NN at hp; omega) (fun hp => by unfold LFM NN at hp; omega) (fun hp => by unfold LFM NN at hp; omega) (fun j _ => (fun hp => by unfold LFM NN at hp; omega)) (fun j _ => (fun hp => by unfold LFM NN at hp; omega))
  · exact fun k hk => (h9 k hk).fr f g (Nat.le_refl _) (fun hp => by unfold LFX NY at hp; omega) (fun j => (fun hp => by unfold LFX NY at hp; omega)) (fun hp => by unfold LFM NN at hp; omega) (fun hp => by unfold LFM NN at hp; omega) (fun j _ => (fun hp => by unfold LFM NN at hp; omega)) (fun j _ => (fun hp => by unfold LFM NN at hp; omega))
  · exact ⟨by rw [f.2 _ _ (fun hp => by unfold LFX NY at hp; omega)]; exact h10.1, by rw [g.2 _ _ (fun hp => by unfold LFM NN at hp; omega)]; exact h10.2⟩
