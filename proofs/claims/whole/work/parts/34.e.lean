/-! inOrder: the reference, zeros. -/
section ORD
variable {M : aM}
set_option maxHeartbeats 400000 in
theorem s281z {m n : Nat} {M1 : aM} (h53 : M1 57 = M 57) (hm : TP M m) (hn : n ≤ m) (hn8 : n ≤ 8) : ∀ (k i : Nat) (M2 : aM), i + k = n → (∀ b, b < i → M 3 b ≠ 0 ∧ M2 88 (9 * b) = 0) → (∀ q, q ≠ 88 → M2 q = M1 q) → (∃ M3, run 2 281 27 [.inr (some 53), .inl (n : Int), .inl (i : Int), .inr none, .inr none, .inr none, .inr none, .inr none] [] M2 = some (some (.inl (-2)), M3) ∧ hasZ (M 3) n ∧ ∀ q, q ≠ 88 → M3 q = M1 q) ∨ ∃ M3, run 2 281 27 [.inr (some 53), .inl (n : Int), .inl (i : Int), .inr none, .inr none, .inr none, .inr none, .inr none] [] M2 = run 2 281 61 [.inr (some 53), .inl (n : Int), .inl 2, .inr none, .inr none, .inr none, .inr none, .inr none] [] M3 ∧ ¬ hasZ (M 3) n ∧ (∀ b, b < n → M3 88 (9 * b) = 0) ∧ ∀ q, q ≠ 88 → M3 q = M1 q
  | 0, i, M2, h, h1, h2 => by
    have : i = n := by omega
    subst this
    refine Or.inr ⟨M2, ?_, ?_, fun b hb => (h1 b hb).2, h2⟩
    · rw [B_281_27, if_pos (Int.le_refl _)]
    · rintro ⟨b, hb, e⟩; exact (h1 b hb).1 e
  | k + 1, i, M2, h, h1, h2 => by
    have b0 : ¬ (n : Int) ≤ (i : Int) := by omega
    have e2 : iAnd (M2 57 i) 255 = M 3 i := by rw [h2 57 (by decide), h53, ← (hm.2.2.2 i (by omega)).1]
    have w1 : wr (9 * (i : Int)) = ((9 * i : Nat) : Int) := by rw [wr_s (by omega) (by omega)]; omega
    have w2 : wr ((i : Int) + 1) = ((i + 1 : Nat) : Int) := by rw [wr_s (by omega) (by omega)]; rfl
    have y : 0 ≤ ((9 * i : Nat) : Int) ∧ ((9 * i : Nat) : Int) < 64 := by omega
    have ho := oct_at (M := M2) (i := i) (by omega)
    rw [B_281_27, if_neg b0, ho, bI_s, e2, w1, if_pos y, w2, Int.toNat_natCast]
    by_cases g : M 3 i = 0
    · exact Or.inl ⟨M2, by rw [if_pos g], ⟨i, by omega, g⟩, h2⟩
    · rw [if_neg g]
      refine s281z h53 hm hn hn8 k (i + 1) _ (by omega) (fun b hb => ?_) (fun q hq => by rw [up_ne hq]; exact h2 q hq)
      by_cases e : b = i
      · subst e; exact ⟨g, up_s⟩
      · rw [up_j (by omega)]; exact h1 b (by omega)
end ORD
