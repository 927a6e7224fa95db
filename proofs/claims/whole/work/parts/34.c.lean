/-! inOrder: the reference, one span. -/
section ORD
variable {M : aM}
def IOK (f : Nat → Int) (M1 M3 : aM) (n d a : Nat) : Prop := IOC f 88 M3 n d ∧ (∀ b, b < a → M3 88 (8 * b + (b + d)) = ioT f (d + 1) d b) ∧ ∀ q, q ≠ 88 → M3 q = M1 q
set_option maxHeartbeats 400000 in
theorem mnb {f : Nat → Int} (hf : ∀ k, 0 ≤ f k ∧ f k ≤ 255) {d a j : Nat} (hd : d ≤ 7) (hj : j < d) : ioT f d j a + ioT f d (d - 1 - j) (a + j + 1) ≤ 100000000 ∧ ioT f d j a + ioT f d (d - 1 - j) (a + j + 1) ≤ 1000000 := by
  have j1 : j ≤ 7 := by omega
  have j2 : d - 1 - j ≤ 7 := by omega
  have f1 := ioT_b hf d j a j1
  have f2 := ioT_b hf d (d - 1 - j) (a + j + 1) j2
  generalize ioT f d j a = A at *
  generalize ioT f d (d - 1 - j) (a + j + 1) = B at *
  omega
set_option maxHeartbeats 400000 in
theorem s281k {m n : Nat} {M1 M3 : aM} (h57 : M1 57 = M 57) (hm : TP M m) (hn : n ≤ m) (hn8 : n ≤ 8) {d a : Nat} (hd : d ≠ 0) (ha : a + d < n) (v4 v5 v6 v7 : aV) (h : IOK (oF M n) M1 M3 n d a) : ∃ w4 w5 w6 w7, run 2 281 68 [.inr (some 53), .inl (n : Int), .inl ((d + 1 : Nat) : Int), .inl (a : Int), v4, v5, v6, v7] [] M3 = run 2 281 68 [.inr (some 53), .inl (n : Int), .inl ((d + 1 : Nat) : Int), .inl ((a + 1 : Nat) : Int), w4, w5, w6, w7] [] (upM M3 88 (8 * a + (a + d)) (ioT (oF M n) (d + 1) d a)) := by
  have hf := oF_b (M := M) hm hn
  obtain ⟨k1, k2, k3⟩ := h
  have i1 : a + (d + 1) < 2147483648 := by omega
  have i2 : a + d < 2147483648 := by omega
  have i3 : a < 1000 := by omega
  have i4 : a + d < 1000 := by omega
  have i5 : a < 2147483647 := by omega
  have i6 : a + (d + 1) ≤ n := by omega
  have i7 : 8 * a + (a + d) < 64 := by omega
  have i8 : 0 + d = d := by omega
  have i9 : d ≤ 7 := by omega
  have w1 : wr ((a : Int) + ((d + 1 : Nat) : Int)) = ((a + (d + 1) : Nat) : Int) := wad i1
  have w2 : wr (((a + (d + 1) : Nat) : Int) - 1) = ((a + d : Nat) : Int) := wm1 (a := a + d) i2
  have w3 : wr (wr (8 * (a : Int)) + ((a + d : Nat) : Int)) = ((8 * a + (a + d) : Nat) : Int) := w_8 i3 i4
  have w4 : wr ((a : Int) + 1) = ((a + 1 : Nat) : Int) := w1p i5
  have b0 : ¬ (n : Int) < ((a + (d + 1) : Nat) : Int) := nle i6
  have y3 : 0 ≤ ((8 * a + (a + d) : Nat) : Int) ∧ ((8 * a + (a + d) : Nat) : Int) < ((64 : Nat) : Int) := rg i7
  have hw := s281j hm hn hn8 ha k1 100000000 d 0 v7 i8
  have hmin := mnI_u (g := fun j => ioT (oF M n) d j a + ioT (oF M n) d (d - 1 - j) (a + j + 1)) (u := 100000000) (v := 1000000) (n := d) hd (fun j hj => mnb hf i9 hj)
  have hdd := ioT_d (oF M n) (d := d) (a := a) hd
  have hx : wr (ioT (oF M n) (d + 1) d a) = ioT (oF M n) (d + 1) d a := by
    have hb := ioT_b hf (d + 1) d a i9
    generalize ioT (oF M n) (d + 1) d a = A at *
    clear w1 w2 w3 w4 b0 y3 hdd hmin hw
    exact wr_s (by omega) (by omega)
  rw [hmin] at hw
  obtain ⟨w, hw⟩ := hw
  have e57 : M3 57 = M 57 := by rw [k3 57 (by decide)]; exact h57
  have hs := s280 (M' := M3) e57 hm hn hn8 (a := a) (d := d) ha
  refine ⟨.inl ((a + d : Nat) : Int), .inl (mnI (fun j => ioT (oF M n) d j a + ioT (oF M n) d (d - 1 - j) (a + j + 1)) 1000000 d), .inl ((a + d : Nat) : Int), w, ?_⟩
  rw [B_281_68, w1, if_neg b0, w2]
  refine Eq.trans hw ?_
  rw [B_281_90, if_pos (Int.le_refl _), hs, bI_s, w3]
  refine Eq.trans (if_pos y3) ?_
  rw [Int.toNat_natCast, ← hdd, hx, w4]
end ORD
