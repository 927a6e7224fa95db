/-! inOrder: the reference, and the call. -/
section ORD
variable {M : aM}
theorem s280 {m n : Nat} {M' : aM} (h57 : M' 57 = M 57) (hm : TP M m) (hn : n ≤ m) (hn8 : n ≤ 8) {a d : Nat} (had : a + d < n) : fnA 280 [.inr (some 53), .inl (a : Int), .inl ((a + d : Nat) : Int)] M' = some (some (.inl (sg (fun k => oF M n (a + k)) (d + 1))), M') := by
  have hf := oF_b (M := M) hm hn
  rw [E_280]
  have key : ∀ (k j : Nat), j + k = d + 1 → run 1 280 5 [.inr (some 53), .inl (a : Int), .inl ((a + d : Nat) : Int), .inl (sg (fun k => oF M n (a + k)) j), .inl ((a + j : Nat) : Int)] [] M' = some (some (.inl (sg (fun k => oF M n (a + k)) (d + 1))), M') := by
    intro k
    induction k with
    | zero =>
      intro j hj
      have : j = d + 1 := by omega
      subst this
      rw [B_280_5, if_pos (by omega)]
    | succ k ih =>
      intro j hj
      have b1 := sg_b (f := fun k => oF M n (a + k)) (c := 255) (n := j) (fun i hi => hf (a + i))
      have b2 := hf (a + j)
      have e1 : wr (((a + j : Nat) : Int) + 1) = ((a + (j + 1) : Nat) : Int) := by rw [wr_s (by omega) (by omega)]; omega
      have e2 : iAnd (M' 57 (a + j)) 255 = oF M n (a + j) := by rw [h57, ← (hm.2.2.2 (a + j) (by omega)).1]; unfold oF; rw [if_pos (by omega)]
      have hih := ih (j + 1) (by omega)
      rw [sg_s] at hih
      rw [B_280_5, if_neg (by omega), oct_at (by omega), bI_s, e2, e1, wr_s (by omega) (by omega)]
      exact hih
  exact key (d + 1) 0 (by omega)
end ORD
