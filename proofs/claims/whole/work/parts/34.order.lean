/-! inOrder: the reference, and the call. -/
section ORD
variable {M : aM}
theorem s280 {m n : Nat} {M' : aM} (h57 : M' 57 = M 57) (hm : TP M m) (hn : n ≤ m) (hn8 : n ≤ 8) {a d : Nat} (had : a + d < n) : fnA 280 [.inr (some 53), .inl (a : Int), .inl ((a + d : Nat) : Int)] M' = some (some (.inl (sg (fun k => oF M n (a + k)) (d + 1))), M') := by
  have hf := oF_b (M := M) hm hn
  rw [E_280]
  have key : ∀ (k j : Nat), j + k = d + 1 → run 1 280 5 [.inr (some 53), .inl (a : Int), .inl ((a + d : Nat) : Int), .inl (sg (fun k => oF M n (a + k)) j), .inl ((a + j : Nat) : Int)] [] M' = some (some (.inl (sg (fun k => oF M n (a + k)) (d + 1))), M') := by
    intro k
    induction k with
    | zero =>
      intro j hj
      have : j = d + 1 := by omega
      subst this
      rw [B_280_5, if_pos (by omega)]
    | succ k ih =>
      intro j hj
      have b1 := sg_b (f := fun k => oF M n (a + k)) (c := 255) (n := j) (fun i hi => hf (a + i))
      have b2 := hf (a + j)
      have e1 : wr (((a + j : Nat) : Int) + 1) = ((a + (j + 1) : Nat) : Int) := by rw [wr_s (by omega) (by omega)]; omega
      have e2 : iAnd (M' 57 (a + j)) 255 = oF M n (a + j) := by rw [h57, ← (hm.2.2.2 (a + j) (by omega)).1]; unfold oF; rw [if_pos (by omega)]
      have hih := ih (j + 1) (by omega)
      rw [sg_s] at hih
      rw [B_280_5, if_neg (by omega), oct_at (by omega), bI_s, e2, e1, wr_s (by omega) (by omega)]
      exact hih
  exact key (d + 1) 0 (by omega)
theorem s281j {m n : Nat} {M3 : aM} (hm : TP M m) (hn : n ≤ m) (hn8 : n ≤ 8) {i a : Nat} (ha : a + (i + 1) < n) (k1 : IOC (oF M n) 88 M3 n (i + 1)) (u : Int) : ∀ (k j : Nat) (v : aV), j + k = i + 1 → ∃ w, run 2 281 90 [.inr (some 53), .inl (n : Int), .inl ((i + 2 : Nat) : Int), .inl (a : Int), .inl ((a + (i + 1) : Nat) : Int), .inl (mnI (fun j => ioT (oF M n) (i + 1) j a + ioT (oF M n) (i + 1) (i + 1 - 1 - j) (a + j + 1)) u j), .inl ((a + j : Nat) : Int), v] [] M3 = run 2 281 90 [.inr (some 53), .inl (n : Int), .inl ((i + 2 : Nat) : Int), .inl (a : Int), .inl ((a + (i + 1) : Nat) : Int), .inl (mnI (fun j => ioT (oF M n) (i + 1) j a + ioT (oF M n) (i + 1) (i + 1 - 1 - j) (a + j + 1)) u (i + 1)), .inl ((a + (i + 1) : Nat) : Int), w] [] M3
  | 0, j, v, h => by
    have : j = i + 1 := by omega
    subst this
    exact ⟨v, rfl⟩
  | k + 1, j, v, h => by
    have hf := oF_b (M := M) hm hn
    have c1 := k1 j a (by omega) (by omega)
    have c2 := k1 (i + 1 - 1 - j) (a + j + 1) (by omega) (by omega)
    rw [show a + j + 1 + (i + 1 - 1 - j) = a + (i + 1) by omega] at c2
    rw [← ioT_f (oF M n) a (show j < i + 1 by omega)] at c1
    rw [← ioT_f (oF M n) (a + j + 1) (show i + 1 - 1 - j < i + 1 by omega)] at c2
    have f1 := ioT_b hf (i + 1) j a (by omega)
    have f2 := ioT_b hf (i + 1) (i + 1 - 1 - j) (a + j + 1) (by omega)
    have w : wr (ioT (oF M n) (i + 1) j a + ioT (oF M n) (i + 1) (i + 1 - 1 - j) (a + j + 1)) = ioT (oF M n) (i + 1) j a + ioT (oF M n) (i + 1) (i + 1 - 1 - j) (a + j + 1) := wr_s (by omega) (by omega)
    have b0 : ¬ ((a + (i + 1) : Nat) : Int) ≤ ((a + j : Nat) : Int) := by omega
    have x3 : wr (((a + j : Nat) : Int) + 1) = ((a + (j + 1) : Nat) : Int) := by rw [wr_s (by omega) (by omega)]; rfl
    have x4 : wr (wr (8 * (a : Int)) + ((a + j : Nat) : Int)) = ((8 * a + (a + j) : Nat) : Int) := by rw [wr_s (z := 8 * _) (by omega) (by omega), wr_s (by omega) (by omega)]; omega
    have x5 : wr (wr (8 * ((a + (j + 1) : Nat) : Int)) + ((a + (i + 1) : Nat) : Int)) = ((8 * (a + j + 1) + (a + (i + 1)) : Nat) : Int) := by rw [wr_s (z := 8 * _) (by omega) (by omega), wr_s (by omega) (by omega)]; omega
    have y4 : 0 ≤ ((8 * a + (a + j) : Nat) : Int) ∧ ((8 * a + (a + j) : Nat) : Int) < 64 := by omega
    have y5 : 0 ≤ ((8 * (a + j + 1) + (a + (i + 1)) : Nat) : Int) ∧ ((8 * (a + j + 1) + (a + (i + 1)) : Nat) : Int) < 64 := by omega
    obtain ⟨z, hz⟩ := s281j hm hn hn8 ha k1 u k (j + 1) (.inl (ioT (oF M n) (i + 1) j a + ioT (oF M n) (i + 1) (i + 1 - 1 - j) (a + j + 1))) (by omega)
    refine ⟨z, ?_⟩
    rw [B_281_90, if_neg b0, x4, x3, x5, if_pos y4, if_pos y5, Int.toNat_natCast, Int.toNat_natCast, c1, c2, w, s182, bI_s]
    exact hz
def IOK (f : Nat → Int) (M1 M3 : aM) (n i a : Nat) : Prop := IOC f 88 M3 n (i + 1) ∧ (∀ b, b < a → M3 88 (8 * b + (b + (i + 1))) = ioT f (i + 2) (i + 1) b) ∧ ∀ q, q ≠ 88 → M3 q = M1 q
theorem s281k {m n : Nat} {M1 M3 : aM} (h57 : M1 57 = M 57) (hm : TP M m) (hn : n ≤ m) (hn8 : n ≤ 8) {i a : Nat} (ha : a + (i + 1) < n) (v4 v5 v6 v7 : aV) (h : IOK (oF M n) M1 M3 n i a) : ∃ w4 w5 w6 w7, run 2 281 68 [.inr (some 53), .inl (n : Int), .inl ((i + 2 : Nat) : Int), .inl (a : Int), v4, v5, v6, v7] [] M3 = run 2 281 68 [.inr (some 53), .inl (n : Int), .inl ((i + 2 : Nat) : Int), .inl ((a + 1 : Nat) : Int), w4, w5, w6, w7] [] (upM M3 88 (8 * a + (a + (i + 1))) (ioT (oF M n) (i + 2) (i + 1) a)) := by
  have hf := oF_b (M := M) hm hn
  obtain ⟨k1, k2, k3⟩ := h
  have w1 : wr ((a : Int) + ((i + 2 : Nat) : Int)) = ((a + (i + 2) : Nat) : Int) := by rw [wr_s (by omega) (by omega)]; omega
  have w2 : wr (((a + (i + 2) : Nat) : Int) - 1) = ((a + (i + 1) : Nat) : Int) := by rw [wr_s (by omega) (by omega)]; omega
  have w3 : wr (wr (8 * (a : Int)) + ((a + (i + 1) : Nat) : Int)) = ((8 * a + (a + (i + 1)) : Nat) : Int) := by rw [wr_s (z := 8 * _) (by omega) (by omega), wr_s (by omega) (by omega)]; omega
  have w4 : wr ((a : Int) + 1) = ((a + 1 : Nat) : Int) := by rw [wr_s (by omega) (by omega)]; rfl
  have b0 : ¬ (n : Int) < ((a + (i + 2) : Nat) : Int) := by omega
  have y3 : 0 ≤ ((8 * a + (a + (i + 1)) : Nat) : Int) ∧ ((8 * a + (a + (i + 1)) : Nat) : Int) < 64 := by omega
  obtain ⟨w, hw⟩ := s281j hm hn hn8 ha k1 100000000 (i + 1) 0 v7 (by omega)
  have hmin := mnI_u (g := fun j => ioT (oF M n) (i + 1) j a + ioT (oF M n) (i + 1) (i + 1 - 1 - j) (a + j + 1)) (u := 100000000) (v := 1000000) (n := i + 1) (by omega) (fun j hj => by
    have f1 := ioT_b hf (i + 1) j a (by omega)
    have f2 := ioT_b hf (i + 1) (i + 1 - 1 - j) (a + j + 1) (by omega)
    omega)
  have hdd := ioT_d (oF M n) (d := i + 1) (a := a) (by omega)
  have hb := ioT_b hf (i + 2) (i + 1) a (by omega)
  rw [hmin] at hw
  rw [show i + 1 + 1 = i + 2 from rfl] at hdd
  have e57 : M3 57 = M 57 := by rw [k3 57 (by decide)]; exact h57
  have hs := s280 (M' := M3) e57 hm hn hn8 (a := a) (d := i + 1) ha
  have hx : wr (ioT (oF M n) (i + 2) (i + 1) a) = ioT (oF M n) (i + 2) (i + 1) a := wr_s (by omega) (by omega)
  refine ⟨_, _, _, w, ?_⟩
  rw [B_281_68, w1, if_neg b0, w2]
  refine Eq.trans hw ?_
  rw [B_281_90, if_pos (Int.le_refl _), hs, bI_s, w3, if_pos y3, Int.toNat_natCast, ← hdd, hx, w4]
theorem s281l {m n : Nat} {M1 : aM} (h57 : M1 57 = M 57) (hm : TP M m) (hn : n ≤ m) (hn8 : n ≤ 8) {i : Nat} (hi : i + 1 < n) : ∀ (k a : Nat) (v4 v5 v6 v7 : aV) (M3 : aM), a + k = n - (i + 1) → IOK (oF M n) M1 M3 n i a → ∃ w4 w5 w6 w7 M4, run 2 281 68 [.inr (some 53), .inl (n : Int), .inl ((i + 2 : Nat) : Int), .inl (a : Int), v4, v5, v6, v7] [] M3 = run 2 281 68 [.inr (some 53), .inl (n : Int), .inl ((i + 2 : Nat) : Int), .inl ((n - (i + 1) : Nat) : Int), w4, w5, w6, w7] [] M4 ∧ IOK (oF M n) M1 M4 n i (n - (i + 1))
  | 0, a, v4, v5, v6, v7, M3, h, hI => by
    have : a = n - (i + 1) := by omega
    subst this
    exact ⟨v4, v5, v6, v7, M3, rfl, hI⟩
  | k + 1, a, v4, v5, v6, v7, M3, h, hI => by
    obtain ⟨w4, w5, w6, w7, hw⟩ := s281k h57 hm hn hn8 (i := i) (a := a) (by omega) v4 v5 v6 v7 hI
    obtain ⟨k1, k2, k3⟩ := hI
    have hI' : IOK (oF M n) M1 (upM M3 88 (8 * a + (a + (i + 1))) (ioT (oF M n) (i + 2) (i + 1) a)) n i (a + 1) := by
      refine ⟨fun d b hd hb => ?_, fun b hb => ?_, fun q hq => ?_⟩
      · rw [up_j (by omega)]; exact k1 d b hd hb
      · by_cases e : b = a
        · rw [e, up_s]
        · rw [up_j (by omega)]; exact k2 b (by omega)
      · rw [up_ne hq]; exact k3 q hq
    obtain ⟨x4, x5, x6, x7, M4, hx, h4⟩ := s281l h57 hm hn hn8 hi k (a + 1) w4 w5 w6 w7 _ (by omega) hI'
    exact ⟨x4, x5, x6, x7, M4, hw.trans hx, h4⟩
theorem s281o {m n : Nat} {M1 : aM} (h57 : M1 57 = M 57) (hm : TP M m) (hn : n ≤ m) (hn8 : n ≤ 8) : ∀ (k i : Nat) (v3 v4 v5 v6 v7 : aV) (M2 : aM), i + 1 + k = n → IOC (oF M n) 88 M2 n (i + 1) → (∀ q, q ≠ 88 → M2 q = M1 q) → ∃ w3 w4 w5 w6 w7 M', run 2 281 61 [.inr (some 53), .inl (n : Int), .inl ((i + 2 : Nat) : Int), v3, v4, v5, v6, v7] [] M2 = run 2 281 61 [.inr (some 53), .inl (n : Int), .inl ((n + 1 : Nat) : Int), w3, w4, w5, w6, w7] [] M' ∧ IOC (oF M n) 88 M' n n ∧ ∀ q, q ≠ 88 → M' q = M1 q
  | 0, i, v3, v4, v5, v6, v7, M2, h, h1, h2 => by
    have : n = i + 1 := by omega
    subst this
    exact ⟨v3, v4, v5, v6, v7, M2, rfl, h1, h2⟩
  | k + 1, i, v3, v4, v5, v6, v7, M2, h, h1, h2 => by
    obtain ⟨w4, w5, w6, w7, M4, hw, k1, k2, k3⟩ := s281l (i := i) h57 hm hn hn8 (by omega) (n - (i + 1)) 0 v4 v5 v6 v7 M2 (by omega) ⟨h1, fun b hb => absurd hb (Nat.not_lt_zero b), h2⟩
    have b0 : ¬ (n : Int) < ((i + 2 : Nat) : Int) := by omega
    have w1 : wr (((n - (i + 1) : Nat) : Int) + ((i + 2 : Nat) : Int)) = ((n + 1 : Nat) : Int) := by rw [wr_s (by omega) (by omega)]; omega
    have b1 : (n : Int) < ((n + 1 : Nat) : Int) := by omega
    have w2 : wr (((i + 2 : Nat) : Int) + 1) = ((i + 1 + 2 : Nat) : Int) := by rw [wr_s (by omega) (by omega)]; rfl
    obtain ⟨x3, x4, x5, x6, x7, M', hx, g1, g2⟩ := s281o h57 hm hn hn8 k (i + 1) (.inl ((n - (i + 1) : Nat) : Int)) w4 w5 w6 w7 M4 (by omega) (fun d b hd hb => by
      by_cases e : d = i + 1
      · subst e; exact k2 b (by omega)
      · exact k1 d b (by omega) hb) k3
    refine ⟨x3, x4, x5, x6, x7, M', ?_, g1, g2⟩
    rw [B_281_61, if_neg b0]
    refine Eq.trans hw ?_
    rw [B_281_68, w1, if_pos b1, w2]
    exact hx
theorem s281z {m n : Nat} {M1 : aM} (h53 : M1 57 = M 57) (hm : TP M m) (hn : n ≤ m) (hn8 : n ≤ 8) : ∀ (k i : Nat) (M2 : aM), i + k = n → (∀ b, b < i → M 3 b ≠ 0 ∧ M2 88 (9 * b) = 0) → (∀ q, q ≠ 88 → M2 q = M1 q) → (∃ M3, run 2 281 27 [.inr (some 53), .inl (n : Int), .inl (i : Int), .inr none, .inr none, .inr none, .inr none, .inr none] [] M2 = some (some (.inl (-2)), M3) ∧ hasZ (M 3) n ∧ ∀ q, q ≠ 88 → M3 q = M1 q) ∨ ∃ M3, run 2 281 27 [.inr (some 53), .inl (n : Int), .inl (i : Int), .inr none, .inr none, .inr none, .inr none, .inr none] [] M2 = run 2 281 61 [.inr (some 53), .inl (n : Int), .inl 2, .inr none, .inr none, .inr none, .inr none, .inr none] [] M3 ∧ ¬ hasZ (M 3) n ∧ (∀ b, b < n → M3 88 (9 * b) = 0) ∧ ∀ q, q ≠ 88 → M3 q = M1 q
  | 0, i, M2, h, h1, h2 => by
    have : i = n := by omega
    subst this
    refine Or.inr ⟨M2, ?_, ?_, fun b hb => (h1 b hb).2, h2⟩
    · rw [B_281_27, if_pos (Int.le_refl _)]
    · rintro ⟨b, hb, e⟩; exact (h1 b hb).1 e
  | k + 1, i, M2, h, h1, h2 => by
    have b0 : ¬ (n : Int) ≤ (i : Int) := by omega
    have e2 : iAnd (M2 57 i) 255 = M 3 i := by rw [h2 57 (by decide), h53, ← (hm.2.2.2 i (by omega)).1]
    have w1 : wr (9 * (i : Int)) = ((9 * i : Nat) : Int) := by rw [wr_s (by omega) (by omega)]; omega
    have w2 : wr ((i : Int) + 1) = ((i + 1 : Nat) : Int) := by rw [wr_s (by omega) (by omega)]; rfl
    have y : 0 ≤ ((9 * i : Nat) : Int) ∧ ((9 * i : Nat) : Int) < 64 := by omega
    have ho := oct_at (M := M2) (i := i) (by omega)
    rw [B_281_27, if_neg b0, ho, bI_s, e2, w1, if_pos y, w2, Int.toNat_natCast]
    by_cases g : M 3 i = 0
    · exact Or.inl ⟨M2, by rw [if_pos g], ⟨i, by omega, g⟩, h2⟩
    · rw [if_neg g]
      refine s281z h53 hm hn hn8 k (i + 1) _ (by omega) (fun b hb => ?_) (fun q hq => by rw [up_ne hq]; exact h2 q hq)
      by_cases e : b = i
      · subst e; exact ⟨g, up_s⟩
      · rw [up_j (by omega)]; exact h1 b (by omega)
end ORD
