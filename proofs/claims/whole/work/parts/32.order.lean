/-! shortest and inOrder: what both begin with; the table of inOrder. -/
section ORD
variable {M : aM}
/-- one of the first n is 0 -/
def hasZ (f : Nat → Int) (n : Nat) : Prop := ∃ k, k < n ∧ f k = 0
theorem s98 {m : Nat} (hm : TP M m) {n : Nat} (hn : n ≤ m) : fnA 98 [.inr (some 2), .inl (n : Int)] M = some (some (.inl (bI1 (hasZ (M 3) n))), M) := by
  have hm3 := hm.2.2.1
  rw [E_98]
  have key : ∀ (k i : Nat), i + k = n → (∀ j, j < i → M 3 j ≠ 0) → run 1 98 2 [.inr (some 2), .inl (n : Int), .inl (i : Int)] [] M = some (some (.inl (bI1 (hasZ (M 3) n))), M) := by
    intro k
    induction k with
    | zero =>
      intro i hi h
      rw [B_98_2, if_pos (by omega), bI1_f]
      rintro ⟨j, h1, h2⟩
      exact h j (by omega) h2
    | succ k ih =>
      intro i hi h
      have e1 : wr ((i : Int) + 1) = ((i + 1 : Nat) : Int) := by rw [wr_s (by omega) (by omega)]; rfl
      rw [B_98_2, if_neg (by omega), tape_at hm (by omega), bI_s, e1]
      by_cases g : M 3 i = 0
      · rw [if_pos g, bI1_t ⟨i, by omega, g⟩]
      · rw [if_neg g]
        refine ih (i + 1) (by omega) (fun j hj => ?_)
        by_cases e : j = i
        · rw [e]; exact g
        · exact h j (by omega)
  exact key n 0 (by omega) (fun j hj => absurd hj (Nat.not_lt_zero j))
/-- the least of the first n, u at most -/
def mnI (g : Nat → Int) (u : Int) : Nat → Int
  | 0 => u
  | n + 1 => min (mnI g u n) (g n)
theorem mnI_s (g : Nat → Int) (u : Int) (n : Nat) : mnI g u (n + 1) = min (mnI g u n) (g n) := rfl
theorem mnI_c {g h : Nat → Int} {u : Int} : ∀ {n : Nat}, (∀ i, i < n → g i = h i) → mnI g u n = mnI h u n
  | 0, _ => rfl
  | n + 1, hh => by rw [mnI_s, mnI_s, mnI_c (n := n) (fun i hi => hh i (by omega)), hh n (by omega)]
theorem mnI_u {g : Nat → Int} {u v : Int} : ∀ {n : Nat}, n ≠ 0 → (∀ i, i < n → g i ≤ u ∧ g i ≤ v) → mnI g u n = mnI g v n
  | 0, h, _ => absurd rfl h
  | 1, _, hh => by
    have := hh 0 (by omega)
    show min u (g 0) = min v (g 0)
    omega
  | n + 2, _, hh => by rw [mnI_s, mnI_s g v, mnI_u (n := n + 1) (by omega) (fun i hi => hh i (by omega))]
theorem mnI_le {g : Nat → Int} {u : Int} : ∀ {n i : Nat}, i < n → mnI g u n ≤ g i
  | 0, _, h => absurd h (by omega)
  | n + 1, i, h => by
    rw [mnI_s]
    by_cases e : i = n
    · rw [e]; omega
    · have := mnI_le (g := g) (u := u) (n := n) (i := i) (by omega); omega
theorem mnI_0 {g : Nat → Int} {u : Int} (hu : 0 ≤ u) : ∀ {n : Nat}, (∀ i, i < n → 0 ≤ g i) → 0 ≤ mnI g u n
  | 0, _ => hu
  | n + 1, h => by
    have := mnI_0 (g := g) hu (n := n) (fun i hi => h i (by omega))
    have := h n (by omega)
    rw [mnI_s]; omega
/-- the cost of the signs from a on to a + d, laid for d < n -/
def ioT (f : Nat → Int) : Nat → Nat → Nat → Int
  | 0, _, _ => 0
  | n + 1, d, a => if d = n ∧ d ≠ 0 then mnI (fun j => ioT f n j a + ioT f n (d - 1 - j) (a + j + 1)) 1000000 d + sg (fun k => f (a + k)) (d + 1) else ioT f n d a
theorem ioT_s (f : Nat → Int) (n d a : Nat) : ioT f (n + 1) d a = if d = n ∧ d ≠ 0 then mnI (fun j => ioT f n j a + ioT f n (d - 1 - j) (a + j + 1)) 1000000 d + sg (fun k => f (a + k)) (d + 1) else ioT f n d a := by rw [ioT]
end ORD
