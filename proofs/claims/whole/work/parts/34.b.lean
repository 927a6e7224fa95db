/-! inOrder: the reference, innermost. -/
section ORD
variable {M : aM}
set_option maxHeartbeats 100000 in
theorem s281j {m n : Nat} {M3 : aM} (hm : TP M m) (hn : n ≤ m) (hn8 : n ≤ 8) {d a : Nat} (ha : a + d < n) (k1 : IOC (oF M n) 88 M3 n d) (u : Int) : ∀ (k j : Nat) (v : aV), j + k = d → ∃ w, run 2 281 90 [.inr (some 53), .inl (n : Int), .inl ((d + 1 : Nat) : Int), .inl (a : Int), .inl ((a + d : Nat) : Int), .inl (mnI (fun j => ioT (oF M n) d j a + ioT (oF M n) d (d - 1 - j) (a + j + 1)) u j), .inl ((a + j : Nat) : Int), v] [] M3 = run 2 281 90 [.inr (some 53), .inl (n : Int), .inl ((d + 1 : Nat) : Int), .inl (a : Int), .inl ((a + d : Nat) : Int), .inl (mnI (fun j => ioT (oF M n) d j a + ioT (oF M n) d (d - 1 - j) (a + j + 1)) u d), .inl ((a + d : Nat) : Int), w] [] M3
  | 0, j, v, h => by
    have : j = d := by omega
    subst this
    exact ⟨v, rfl⟩
  | k + 1, j, v, h => by
    have hj : j < d := by omega
    have hj2 : d - 1 - j < d := by omega
    have hj3 : a + j + 1 + (d - 1 - j) = a + d := by omega
    have i1 : a + j < a + d := by omega
    have i2 : a + j < 2147483647 := by omega
    have i3 : a < 1000 := by omega
    have i4 : a + j < 1000 := by omega
    have i5 : a + j + 1 < 1000 := by omega
    have i6 : a + d < 1000 := by omega
    have i7 : 8 * a + (a + j) < 64 := by omega
    have i8 : 8 * (a + j + 1) + (a + d) < 64 := by omega
    have i9 : j + 1 + k = d := by omega
    have j1 : j ≤ 7 := by omega
    have j2 : d - 1 - j ≤ 7 := by omega
    have j3 : a + j < n := by omega
    have j4 : a + j + 1 + (d - 1 - j) < n := by omega
    have b0 : ¬ ((a + d : Nat) : Int) ≤ ((a + j : Nat) : Int) := nlt i1
    have x3 : wr (((a + j : Nat) : Int) + 1) = ((a + j + 1 : Nat) : Int) := w1p i2
    have x4 : wr (wr (8 * (a : Int)) + ((a + j : Nat) : Int)) = ((8 * a + (a + j) : Nat) : Int) := w_8 i3 i4
    have x5 : wr (wr (8 * ((a + j + 1 : Nat) : Int)) + ((a + d : Nat) : Int)) = ((8 * (a + j + 1) + (a + d) : Nat) : Int) := w_8 i5 i6
    have y4 : 0 ≤ ((8 * a + (a + j) : Nat) : Int) ∧ ((8 * a + (a + j) : Nat) : Int) < ((64 : Nat) : Int) := rg i7
    have y5 : 0 ≤ ((8 * (a + j + 1) + (a + d) : Nat) : Int) ∧ ((8 * (a + j + 1) + (a + d) : Nat) : Int) < ((64 : Nat) : Int) := rg i8
    have hf := oF_b (M := M) hm hn
    have f1 := ioT_b hf d j a j1
    have f2 := ioT_b hf d (d - 1 - j) (a + j + 1) j2
    have w : wr (ioT (oF M n) d j a + ioT (oF M n) d (d - 1 - j) (a + j + 1)) = ioT (oF M n) d j a + ioT (oF M n) d (d - 1 - j) (a + j + 1) := by
      generalize ioT (oF M n) d j a = A at *
      generalize ioT (oF M n) d (d - 1 - j) (a + j + 1) = B at *
      clear x3 x4 x5 y4 y5 b0
      exact wr_s (by omega) (by omega)
    clear f1 f2
    obtain ⟨z, hz⟩ := s281j hm hn hn8 ha k1 u k (j + 1) (.inl (ioT (oF M n) d j a + ioT (oF M n) d (d - 1 - j) (a + j + 1))) i9
    have c1 := k1 j a hj j3
    have c2 := k1 (d - 1 - j) (a + j + 1) hj2 j4
    rw [hj3] at c2
    rw [← ioT_f (oF M n) a hj] at c1
    rw [← ioT_f (oF M n) (a + j + 1) hj2] at c2
    refine ⟨z, ?_⟩
    rw [mnI_s, show a + (j + 1) = a + j + 1 from rfl] at hz
    rw [B_281_90, if_neg b0, x4, x3, x5]
    refine Eq.trans (if_pos y4) (Eq.trans (if_pos y5) ?_)
    rw [Int.toNat_natCast, Int.toNat_natCast, c1, c2, w, s182, bI_s]
    exact hz
end ORD
