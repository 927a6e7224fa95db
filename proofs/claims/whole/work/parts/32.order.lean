/-! shortest and inOrder: what both begin with; the table of inOrder. -/
section ORD
variable {M : aM}
/-- one of the first n is 0 -/
def hasZ (f : Nat → Int) (n : Nat) : Prop := ∃ k, k < n ∧ f k = 0
theorem s98 {m : Nat} (hm : TP M m) {n : Nat} (hn : n ≤ m) : fnA 98 [.inr (some 2), .inl (n : Int)] M = some (some (.inl (bI1 (hasZ (M 3) n))), M) := by
  have hm3 := hm.2.2.1
  rw [E_98]
  have key : ∀ (k i : Nat), i + k = n → (∀ j, j < i → M 3 j ≠ 0) → run 1 98 2 [.inr (some 2), .inl (n : Int), .inl (i : Int)] [] M = some (some (.inl (bI1 (hasZ (M 3) n))), M) := by
    intro k
    induction k with
    | zero =>
      intro i hi h
      rw [B_98_2, if_pos (by omega), bI1_f]
      rintro ⟨j, h1, h2⟩
      exact h j (by omega) h2
    | succ k ih =>
      intro i hi h
      have e1 : wr ((i : Int) + 1) = ((i + 1 : Nat) : Int) := by rw [wr_s (by omega) (by omega)]; rfl
      rw [B_98_2, if_neg (by omega), tape_at hm (by omega), bI_s, e1]
      by_cases g : M 3 i = 0
      · rw [if_pos g, bI1_t ⟨i, by omega, g⟩]
      · rw [if_neg g]
        refine ih (i + 1) (by omega) (fun j hj => ?_)
        by_cases e : j = i
        · rw [e]; exact g
        · exact h j (by omega)
  exact key n 0 (by omega) (fun j hj => absurd hj (Nat.not_lt_zero j))
/-- the least of the first n, u at most -/
def mnI (g : Nat → Int) (u : Int) : Nat → Int
  | 0 => u
  | n + 1 => min (mnI g u n) (g n)
theorem mnI_s (g : Nat → Int) (u : Int) (n : Nat) : mnI g u (n + 1) = min (mnI g u n) (g n) := rfl
theorem mnI_c {g h : Nat → Int} {u : Int} : ∀ {n : Nat}, (∀ i, i < n → g i = h i) → mnI g u n = mnI h u n
  | 0, _ => rfl
  | n + 1, hh => by rw [mnI_s, mnI_s, mnI_c (n := n) (fun i hi => hh i (by omega)), hh n (by omega)]
theorem mnI_u {g : Nat → Int} {u v : Int} : ∀ {n : Nat}, n ≠ 0 → (∀ i, i < n → g i ≤ u ∧ g i ≤ v) → mnI g u n = mnI g v n
  | 0, h, _ => absurd rfl h
  | 1, _, hh => by
    have := hh 0 (by omega)
    show min u (g 0) = min v (g 0)
    omega
  | n + 2, _, hh => by rw [mnI_s, mnI_s g v, mnI_u (n := n + 1) (by omega) (fun i hi => hh i (by omega))]
theorem mnI_le {g : Nat → Int} {u : Int} : ∀ {n i : Nat}, i < n → mnI g u n ≤ g i
  | 0, _, h => absurd h (by omega)
  | n + 1, i, h => by
    rw [mnI_s]
    by_cases e : i = n
    · rw [e]; omega
    · have := mnI_le (g := g) (u := u) (n := n) (i := i) (by omega); omega
theorem mnI_0 {g : Nat → Int} {u : Int} (hu : 0 ≤ u) : ∀ {n : Nat}, (∀ i, i < n → 0 ≤ g i) → 0 ≤ mnI g u n
  | 0, _ => hu
  | n + 1, h => by
    have := mnI_0 (g := g) hu (n := n) (fun i hi => h i (by omega))
    have := h n (by omega)
    rw [mnI_s]; omega
/-- the cost of the signs from a on to a + d, laid for d < n -/
def ioT (f : Nat → Int) : Nat → Nat → Nat → Int
  | 0, _, _ => 0
  | n + 1, d, a => if d = n ∧ d ≠ 0 then mnI (fun j => ioT f n j a + ioT f n (d - 1 - j) (a + j + 1)) 1000000 d + sg (fun k => f (a + k)) (d + 1) else ioT f n d a
theorem ioT_s (f : Nat → Int) (n d a : Nat) : ioT f (n + 1) d a = if d = n ∧ d ≠ 0 then mnI (fun j => ioT f n j a + ioT f n (d - 1 - j) (a + j + 1)) 1000000 d + sg (fun k => f (a + k)) (d + 1) else ioT f n d a := by rw [ioT]
theorem ioT_k (f : Nat → Int) (d a : Nat) : ∀ k, ioT f (d + 1 + k) d a = ioT f (d + 1) d a
  | 0 => rfl
  | k + 1 => by
    rw [← Nat.add_assoc, ioT_s, if_neg (by omega)]
    exact ioT_k f d a k
theorem ioT_f (f : Nat → Int) {n d : Nat} (a : Nat) (h : d < n) : ioT f n d a = ioT f (d + 1) d a := by
  have := ioT_k f d a (n - (d + 1))
  rw [show d + 1 + (n - (d + 1)) = n by omega] at this
  exact this
theorem ioT_0 (f : Nat → Int) (a : Nat) : ∀ n, ioT f n 0 a = 0
  | 0 => by rw [ioT]
  | n + 1 => by rw [ioT_s, if_neg (by omega)]; exact ioT_0 f a n
/-- a cost with what is laid below it -/
theorem ioT_d (f : Nat → Int) {d a : Nat} (hd : d ≠ 0) : ioT f (d + 1) d a = mnI (fun j => ioT f d j a + ioT f d (d - 1 - j) (a + j + 1)) 1000000 d + sg (fun k => f (a + k)) (d + 1) := by rw [ioT_s, if_pos ⟨rfl, hd⟩]
theorem ioT_b {f : Nat → Int} (hf : ∀ k, 0 ≤ f k ∧ f k ≤ 255) : ∀ (n d a : Nat), d ≤ 7 → 0 ≤ ioT f n d a ∧ ioT f n d a ≤ 2040 * (d : Int)
  | 0, d, a, _ => by rw [ioT]; omega
  | n + 1, d, a, h7 => by
    rw [ioT_s]
    by_cases h : d = n ∧ d ≠ 0
    · rw [if_pos h]
      have h0 := mnI_0 (g := fun j => ioT f n j a + ioT f n (d - 1 - j) (a + j + 1)) (u := 1000000) (n := d) (by decide) (fun j hj => by
        have h1 := ioT_b hf n j a (by omega)
        have h2 := ioT_b hf n (d - 1 - j) (a + j + 1) (by omega)
        omega)
      have hl := mnI_le (g := fun j => ioT f n j a + ioT f n (d - 1 - j) (a + j + 1)) (u := 1000000) (n := d) (i := 0) (by omega)
      have h1 := ioT_0 f a n
      have h2 := ioT_b hf n (d - 1 - 0) (a + 0 + 1) (by omega)
      have h3 := sg_b (f := fun k => f (a + k)) (c := 255) (n := d + 1) (fun i hi => hf (a + i))
      rw [h1] at hl
      omega
    · rw [if_neg h]; exact ioT_b hf n d a h7
theorem s40 (M : aM) {a b : Nat} (ha : a < 8) (hb : b < 8) : fnA 40 [.inr (some 40), .inl (a : Int), .inl (b : Int)] M = some (some (.inl (M 46 (8 * a + b))), M) := by
  rw [E_40, if_neg (by omega), if_neg (by omega), if_neg (by omega), if_neg (by omega), B_40_25, if_neg (by decide), ix8 ha hb, if_pos (by omega), Int.toNat_natCast]
def oF (M : aM) (n k : Nat) : Int := if k < n then M 3 k else 0
theorem oF_b {m n : Nat} (hm : TP M m) (hn : n ≤ m) (k : Nat) : 0 ≤ oF M n k ∧ oF M n k ≤ 255 := by
  unfold oF
  by_cases h : k < n
  · have := hm.2.2.2 k (by omega)
    rw [if_pos h]; omega
  · rw [if_neg h]; omega
def IOC (f : Nat → Int) (c : Nat) (M : aM) (n s : Nat) : Prop := ∀ d a, d < s → a + d < n → M c (8 * a + (a + d)) = ioT f (d + 1) d a
theorem s39 {m n : Nat} (hm : TP M m) (hn : n ≤ m) (hn8 : n ≤ 8) {d a : Nat} (hd : d ≠ 0) (had : a + d < n) (h : IOC (oF M n) 46 M n d) : fnA 39 [.inr (some 40), .inr (some 2), .inl (a : Int), .inl ((a + d : Nat) : Int)] M = some (some (.inl (ioT (oF M n) (d + 1) d a)), M) := by
  have hf := oF_b (M := M) hm hn
  rw [E_39]
  have key : ∀ (k j : Nat), j + k = d → run 1 39 10 [.inr (some 40), .inr (some 2), .inl (a : Int), .inl ((a + d : Nat) : Int), .inl (mnI (fun j => ioT (oF M n) d j a + ioT (oF M n) d (d - 1 - j) (a + j + 1)) 1000000 j), .inl (sg (fun k => oF M n (a + k)) j), .inl ((a + j : Nat) : Int)] [] M = some (some (.inl (ioT (oF M n) (d + 1) d a)), M) := by
    intro k
    induction k with
    | zero =>
      intro j hj
      have : j = d := by omega
      subst this
      have e1 : wr (((a + j : Nat) : Int) + 1) = ((a + j : Nat) : Int) + 1 := wr_s (by omega) (by omega)
      have b1 := sg_b (f := fun k => oF M n (a + k)) (c := 255) (n := j) (fun i hi => hf (a + i))
      have b2 := hf (a + j)
      have e2 : M 3 (a + j) = oF M n (a + j) := by unfold oF; rw [if_pos had]
      have hb := ioT_b hf (j + 1) j a (by omega)
      have hdd := ioT_d (oF M n) (a := a) hd
      have e3 : wr (sg (fun k => oF M n (a + k)) j + oF M n (a + j)) = sg (fun k => oF M n (a + k)) (j + 1) := wr_s (by omega) (by omega)
      rw [B_39_10, if_neg (by omega), tape_at hm (by omega), bI_s, if_pos (Int.le_refl _), e1, e2, e3, B_39_10, if_pos (by omega), wr_s (by omega) (by omega), ← hdd]
    | succ k ih =>
      intro j hj
      have e1 : wr (((a + j : Nat) : Int) + 1) = ((a + (j + 1) : Nat) : Int) := by rw [wr_s (by omega) (by omega)]; omega
      have b1 := sg_b (f := fun k => oF M n (a + k)) (c := 255) (n := j) (fun i hi => hf (a + i))
      have b2 := hf (a + j)
      have e2 : M 3 (a + j) = oF M n (a + j) := by unfold oF; rw [if_pos (by omega)]
      have e3 : wr (sg (fun k => oF M n (a + k)) j + oF M n (a + j)) = sg (fun k => oF M n (a + k)) (j + 1) := wr_s (by omega) (by omega)
      have c1 := h j a (by omega) (by omega)
      have c2 := h (d - 1 - j) (a + j + 1) (by omega) (by omega)
      rw [show a + j + 1 + (d - 1 - j) = a + d by omega] at c2
      rw [← ioT_f (oF M n) a (show j < d by omega)] at c1
      rw [← ioT_f (oF M n) (a + j + 1) (show d - 1 - j < d by omega)] at c2
      have g1 := ioT_b hf d j a (by omega)
      have g2 := ioT_b hf d (d - 1 - j) (a + j + 1) (by omega)
      have hih := ih (j + 1) (by omega)
      rw [mnI_s] at hih
      rw [B_39_10, if_neg (by omega), tape_at hm (by omega), bI_s, if_neg (by omega), s40 M (by omega) (by omega), bI_s, e1, s40 M (by omega) (by omega), bI_s, e2, e3, c1, show a + (j + 1) = a + j + 1 by omega, c2, wr_s (z := ioT _ _ _ _ + _) (by omega) (by omega)]
      exact hih
  exact key d 0 (by omega)
end ORD
