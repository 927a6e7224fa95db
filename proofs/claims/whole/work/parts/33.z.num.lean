/-! Small facts on wr, each with nothing else at hand. -/
theorem w1p {a : Nat} (h : a < 2147483647) : wr ((a : Int) + 1) = ((a + 1 : Nat) : Int) := by rw [wr_s (by omega) (by omega)]; omega
theorem w_8 {a c : Nat} (ha : a < 1000) (hc : c < 1000) : wr (wr (8 * (a : Int)) + (c : Int)) = ((8 * a + c : Nat) : Int) := by rw [wr_s (z := 8 * _) (by omega) (by omega), wr_s (by omega) (by omega)]; omega
theorem w_6 {a c : Nat} (ha : a < 1000) (hc : c < 1000) : wr (wr ((a : Int) * 6) + (c : Int)) = ((6 * a + c : Nat) : Int) := by rw [wr_s (z := _ * 6) (by omega) (by omega), wr_s (by omega) (by omega)]; omega
theorem wad {a b : Nat} (h : a + b < 2147483648) : wr ((a : Int) + (b : Int)) = ((a + b : Nat) : Int) := by rw [wr_s (by omega) (by omega)]; omega
theorem wsb {a b : Nat} (h : b ≤ a) (ha : a < 2147483648) : wr ((a : Int) - (b : Int)) = ((a - b : Nat) : Int) := by rw [wr_s (by omega) (by omega)]; omega
theorem wm1 {a : Nat} (ha : a < 2147483648) : wr (((a + 1 : Nat) : Int) - 1) = (a : Int) := by rw [wr_s (by omega) (by omega)]; omega
theorem wm1' {a : Nat} (ha : a < 2147483648) : wr (((a + 1 : Nat) : Int) + -1) = (a : Int) := by rw [wr_s (by omega) (by omega)]; omega
theorem wm1i {a : Nat} (ha : a < 2147483648) : wr ((a : Int) - 1) = (a : Int) - 1 := by rw [wr_s (by omega) (by omega)]
theorem wm1i' {a : Nat} (ha : a < 2147483648) : wr ((a : Int) + -1) = (a : Int) - 1 := by rw [wr_s (by omega) (by omega)]; rfl
theorem nlt {a b : Nat} (h : a < b) : ¬ (b : Int) ≤ (a : Int) := by omega
theorem nle {a b : Nat} (h : a ≤ b) : ¬ (b : Int) < (a : Int) := by omega
theorem rg {a b : Nat} (h : a < b) : 0 ≤ (a : Int) ∧ (a : Int) < (b : Int) := by omega
/- an equation that omega does not look at -/
def EqI (a b : Int) : Prop := a = b
theorem EqI.e {a b : Int} (h : EqI a b) : a = b := h
theorem EqI.of {a b : Int} (h : a = b) : EqI a b := h
