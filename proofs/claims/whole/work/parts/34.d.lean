/-! inOrder: the reference, all spans. -/
section ORD
variable {M : aM}
set_option maxHeartbeats 400000 in
theorem s281l {m n : Nat} {M1 : aM} (h57 : M1 57 = M 57) (hm : TP M m) (hn : n ≤ m) (hn8 : n ≤ 8) {d : Nat} (hd : d ≠ 0) (hi : d < n) : ∀ (k a : Nat) (v4 v5 v6 v7 : aV) (M3 : aM), a + k = n - d → IOK (oF M n) M1 M3 n d a → ∃ w4 w5 w6 w7 M4, run 2 281 68 [.inr (some 53), .inl (n : Int), .inl ((d + 1 : Nat) : Int), .inl (a : Int), v4, v5, v6, v7] [] M3 = run 2 281 68 [.inr (some 53), .inl (n : Int), .inl ((d + 1 : Nat) : Int), .inl ((n - d : Nat) : Int), w4, w5, w6, w7] [] M4 ∧ IOK (oF M n) M1 M4 n d (n - d)
  | 0, a, v4, v5, v6, v7, M3, h, hI => by
    have : a = n - d := by omega
    subst this
    exact ⟨v4, v5, v6, v7, M3, rfl, hI⟩
  | k + 1, a, v4, v5, v6, v7, M3, h, hI => by
    obtain ⟨w4, w5, w6, w7, hw⟩ := s281k h57 hm hn hn8 hd (a := a) (by omega) v4 v5 v6 v7 hI
    obtain ⟨k1, k2, k3⟩ := hI
    have hI' : IOK (oF M n) M1 (upM M3 88 (8 * a + (a + d)) (ioT (oF M n) (d + 1) d a)) n d (a + 1) := by
      refine ⟨fun e b he hb => ?_, fun b hb => ?_, fun q hq => ?_⟩
      · rw [up_j (by omega)]; exact k1 e b he hb
      · by_cases e : b = a
        · rw [e, up_s]
        · rw [up_j (by omega)]; exact k2 b (by omega)
      · rw [up_ne hq]; exact k3 q hq
    obtain ⟨x4, x5, x6, x7, M4, hx, h4⟩ := s281l h57 hm hn hn8 hd hi k (a + 1) w4 w5 w6 w7 _ (by omega) hI'
    exact ⟨x4, x5, x6, x7, M4, hw.trans hx, h4⟩
set_option maxHeartbeats 400000 in
theorem s281o {m n : Nat} {M1 : aM} (h57 : M1 57 = M 57) (hm : TP M m) (hn : n ≤ m) (hn8 : n ≤ 8) : ∀ (k d : Nat) (v3 v4 v5 v6 v7 : aV) (M2 : aM), d ≠ 0 → d + k = n → IOC (oF M n) 88 M2 n d → (∀ q, q ≠ 88 → M2 q = M1 q) → ∃ w3 w4 w5 w6 w7 M', run 2 281 61 [.inr (some 53), .inl (n : Int), .inl ((d + 1 : Nat) : Int), v3, v4, v5, v6, v7] [] M2 = run 2 281 61 [.inr (some 53), .inl (n : Int), .inl ((n + 1 : Nat) : Int), w3, w4, w5, w6, w7] [] M' ∧ IOC (oF M n) 88 M' n n ∧ ∀ q, q ≠ 88 → M' q = M1 q
  | 0, d, v3, v4, v5, v6, v7, M2, hd, h, h1, h2 => by
    have : n = d := by omega
    subst this
    exact ⟨v3, v4, v5, v6, v7, M2, rfl, h1, h2⟩
  | k + 1, d, v3, v4, v5, v6, v7, M2, hd, h, h1, h2 => by
    obtain ⟨w4, w5, w6, w7, M4, hw, k1, k2, k3⟩ := s281l h57 hm hn hn8 hd (by omega) (n - d) 0 v4 v5 v6 v7 M2 (by omega) ⟨h1, fun b hb => absurd hb (Nat.not_lt_zero b), h2⟩
    have b0 : ¬ (n : Int) < ((d + 1 : Nat) : Int) := by omega
    have w1 : wr (((n - d : Nat) : Int) + ((d + 1 : Nat) : Int)) = ((n + 1 : Nat) : Int) := by rw [wr_s (by omega) (by omega)]; omega
    have b1 : (n : Int) < ((n + 1 : Nat) : Int) := by omega
    have w2 : wr (((d + 1 : Nat) : Int) + 1) = ((d + 1 + 1 : Nat) : Int) := by rw [wr_s (by omega) (by omega)]; rfl
    obtain ⟨x3, x4, x5, x6, x7, M', hx, g1, g2⟩ := s281o h57 hm hn hn8 k (d + 1) (.inl ((n - d : Nat) : Int)) w4 w5 w6 w7 M4 (by omega) (by omega) (fun e b he hb => by
      by_cases ed : e = d
      · subst ed; exact k2 b (by omega)
      · exact k1 e b (by omega) hb) k3
    refine ⟨x3, x4, x5, x6, x7, M', ?_, g1, g2⟩
    rw [B_281_61, if_neg b0]
    refine Eq.trans hw ?_
    rw [B_281_68, w1, if_pos b1, w2]
    exact hx
end ORD
