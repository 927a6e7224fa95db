/-! taken: the fewest sums. -/
def tsT (f : Nat → Int) (s k : Nat) : Int := if s.testBit k = true then f k else 0
noncomputable def tkB (f : Nat → Int) (n : Nat) (sh : Int) : Nat → Option Nat
  | 0 => none
  | i + 1 => if sg (tsT f i) n = sh ∧ (∀ j, tkB f n sh i = some j → pct i 12 < pct j 12) then some i else tkB f n sh i
theorem tkB_s (f : Nat → Int) (n : Nat) (sh : Int) (i : Nat) : tkB f n sh (i + 1) = if sg (tsT f i) n = sh ∧ (∀ j, tkB f n sh i = some j → pct i 12 < pct j 12) then some i else tkB f n sh i := by
  rw [tkB]
