/-! code and atOnce. -/
section COD
variable {W : aM → Prop}
def isB (x : Int) : Prop := x = 46 ∨ x = 45
/-- how many of the k from i on are blinks, till the first that is none -/
def fb (f : Nat → Int) : Nat → Nat → Nat
  | _, 0 => 0
  | i, k + 1 => if f i = 46 ∨ f i = 45 then fb f (i + 1) k + 1 else 0
set_option maxHeartbeats 400000 in
theorem fb_s (f : Nat → Int) (i k : Nat) : fb f i (k + 1) = if f i = 46 ∨ f i = 45 then fb f (i + 1) k + 1 else 0 := rfl
set_option maxHeartbeats 400000 in
theorem fb_le (f : Nat → Int) : ∀ k i, fb f i k ≤ k
  | 0, _ => Nat.le_refl _
  | k + 1, i => by
    have := fb_le f k (i + 1)
    rw [fb_s]; split <;> omega
set_option maxHeartbeats 400000 in
theorem fb_all {f : Nat → Int} : ∀ {k i : Nat}, fb f i k = k → ∀ j, i ≤ j → j < i + k → f j = 46 ∨ f j = 45
  | 0, _, _, j, h1, h2 => absurd h2 (by omega)
  | k + 1, i, h, j, h1, h2 => by
    rw [fb_s] at h
    by_cases g : f i = 46 ∨ f i = 45
    · rw [if_pos g] at h
      by_cases e : j = i
      · rw [e]; exact g
      · exact fb_all (k := k) (i := i + 1) (by omega) j (by omega) (by omega)
    · rw [if_neg g] at h; omega
set_option maxHeartbeats 400000 in
theorem s97 {M : aM} {m n : Nat} (hm : TP M m) (hn : n ≤ m) : fnA 97 [.inr (some 2), .inl (n : Int)] M = some (some (.inl ((fb (M 3) 0 n : Nat) : Int)), M) := by
  have hm3 := hm.2.2.1
  have key : ∀ (k i : Nat) (v : aV), i + k = n → run 1 97 2 [.inr (some 2), .inl (n : Int), .inl (i : Int), v] [] M = some (some (.inl ((i + fb (M 3) i k : Nat) : Int)), M) := by
    intro k
    induction k with
    | zero =>
      intro i v h
      have : n = i := by omega
      subst this
      rw [B_97_2, if_pos (Int.le_refl _)]
      rfl
    | succ k ih =>
      intro i v h
      have w : wr ((i : Int) + 1) = ((i + 1 : Nat) : Int) := by rw [wr_s (by omega) (by omega)]; rfl
      have b0 : ¬ (n : Int) ≤ (i : Int) := by omega
      have hih := ih (i + 1) (.inl (M 3 i)) (by omega)
      rw [B_97_2, if_neg b0, tape_at hm (by omega), bI_s, w, fb_s]
      by_cases g : M 3 i = 46
      · rw [if_pos g, if_pos (Or.inl g), hih, show i + 1 + fb (M 3) (i + 1) k = i + (fb (M 3) (i + 1) k + 1) by omega]
      · rw [if_neg g]
        by_cases g2 : M 3 i = 45
        · rw [if_pos g2, if_pos (Or.inr g2), hih, show i + 1 + fb (M 3) (i + 1) k = i + (fb (M 3) (i + 1) k + 1) by omega]
        · rw [if_neg g2, if_neg (fun z => z.elim g g2)]
          rfl
  rw [E_97]
  have := key n 0 (.inr none) (by omega)
  rw [Nat.zero_add] at this
  exact this
set_option maxHeartbeats 400000 in
theorem s271 {M M' : aM} {m n : Nat} (h57 : M' 57 = M 57) (hm : TP M m) (hn : n ≤ m) : fnA 271 [.inr (some 53), .inl (n : Int)] M' = some (some (.inl (if fb (M 3) 0 n = n then -1 else ((fb (M 3) 0 n : Nat) : Int))), M') := by
  have hm3 := hm.2.2.1
  have key : ∀ (k i : Nat), i + k = n → run 1 271 2 [.inr (some 53), .inl (n : Int), .inl (i : Int)] [] M' = some (some (.inl (if fb (M 3) i k = k then -1 else ((i + fb (M 3) i k : Nat) : Int))), M') := by
    intro k
    induction k with
    | zero =>
      intro i h
      have : n = i := by omega
      subst this
      rw [B_271_2, if_pos (Int.le_refl _), if_pos (show fb (M 3) n 0 = 0 from rfl)]
    | succ k ih =>
      intro i h
      have w : wr ((i : Int) + 1) = ((i + 1 : Nat) : Int) := by rw [wr_s (by omega) (by omega)]; rfl
      have b0 : ¬ (n : Int) ≤ (i : Int) := by omega
      have hih := ih (i + 1) (by omega)
      have e2 : iAnd (M' 57 i) 255 = M 3 i := by rw [h57, ← (hm.2.2.2 i (by omega)).1]
      have ho := oct_at (M := M') (i := i) (by omega)
      rw [e2] at ho
      have hi2 : (if fb (M 3) (i + 1) k = k then (-1 : Int) else ((i + 1 + fb (M 3) (i + 1) k : Nat) : Int)) = if fb (M 3) (i + 1) k + 1 = k + 1 then -1 else ((i + (fb (M 3) (i + 1) k + 1) : Nat) : Int) := by
        by_cases c : fb (M 3) (i + 1) k = k
        · rw [if_pos c, if_pos (by omega)]
        · rw [if_neg c, if_neg (by omega), show i + 1 + fb (M 3) (i + 1) k = i + (fb (M 3) (i + 1) k + 1) by omega]
      rw [hi2] at hih
      rw [B_271_2, if_neg b0, ho, bI_s, w, fb_s]
      by_cases g : M 3 i = 46
      · rw [if_pos g, if_pos (Or.inl g), hih]
      · rw [if_neg g, ho, bI_s]
        by_cases g2 : M 3 i = 45
        · rw [if_pos g2, if_pos (Or.inr g2), hih]
        · rw [if_neg g2, if_neg (c := M 3 i = 46 ∨ M 3 i = 45) (fun z => z.elim g g2), if_neg (by omega)]
          rfl
  rw [E_271]
  have := key n 0 (by omega)
  rw [Nat.zero_add] at this
  exact this
set_option maxHeartbeats 400000 in
theorem bz_s (f : Nat → Int) (n : Nat) : bz f (n + 1) = 2 * bz f n + if f n = 45 then 1 else 0 := rfl
set_option maxHeartbeats 400000 in
theorem bz_b (f : Nat → Int) : ∀ n, 0 ≤ bz f n ∧ bz f n < ((2 ^ n : Nat) : Int)
  | 0 => ⟨Int.le_refl 0, by show (0 : Int) < ((2 ^ 0 : Nat) : Int); decide⟩
  | n + 1 => by
    have := bz_b f n
    have e : ((2 ^ (n + 1) : Nat) : Int) = 2 * ((2 ^ n : Nat) : Int) := by rw [Nat.pow_succ]; omega
    rw [bz_s, e]
    split <;> omega
set_option maxHeartbeats 400000 in
theorem bzN_6 (f : Nat → Int) {n : Nat} (hn : n ≤ 6) : 0 ≤ bz f n ∧ bz f n < 64 := by
  have h1 := bz_b f n
  have h2 : 2 ^ n ≤ 2 ^ 6 := Nat.pow_le_pow_right (by decide) hn
  omega
set_option maxHeartbeats 400000 in
theorem bz_c {f g : Nat → Int} : ∀ {n : Nat}, (∀ i, i < n → f i = g i) → bz f n = bz g n
  | 0, _ => rfl
  | n + 1, h => by rw [bz_s, bz_s, bz_c (n := n) (fun i hi => h i (by omega)), h n (by omega)]
set_option maxHeartbeats 400000 in
theorem bz_i {f g : Nat → Int} : ∀ {n : Nat}, bz f n = bz g n → ∀ i, i < n → (f i = 45 ↔ g i = 45)
  | 0, _, i, hi => absurd hi (by omega)
  | n + 1, h, i, hi => by
    rw [bz_s, bz_s] at h
    have hp : (f n = 45 ↔ g n = 45) ∧ bz f n = bz g n := by
      by_cases a : f n = 45
      · by_cases b : g n = 45
        · rw [if_pos a, if_pos b] at h; exact ⟨⟨fun _ => b, fun _ => a⟩, by omega⟩
        · rw [if_pos a, if_neg b] at h; omega
      · by_cases b : g n = 45
        · rw [if_neg a, if_pos b] at h; omega
        · rw [if_neg a, if_neg b] at h; exact ⟨⟨fun z => absurd z a, fun z => absurd z b⟩, by omega⟩
    by_cases e : i = n
    · rw [e]; exact hp.1
    · exact bz_i (n := n) hp.2 i (by omega)
set_option maxHeartbeats 400000 in
theorem bz_e {f g : Nat → Int} {n : Nat} (hf : ∀ i, i < n → f i = 46 ∨ f i = 45) (hg : ∀ i, i < n → g i = 46 ∨ g i = 45) : bz f n = bz g n ↔ ∀ i, i < n → f i = g i :=
  ⟨fun h i hi => by
    have h1 := bz_i h i hi
    have h2 := hf i hi
    have h3 := hg i hi
    omega, bz_c⟩
/- cut off behind -/
set_option maxHeartbeats 400000 in
theorem bz_d (f : Nat → Int) (m : Nat) : ∀ k, bz f (m + k) / ((2 ^ k : Nat) : Int) = bz f m
  | 0 => by rw [Nat.add_zero, Nat.pow_zero]; exact Int.ediv_one _
  | k + 1 => by
    have ih := bz_d f m k
    rw [← Nat.add_assoc, bz_s, Nat.pow_succ, Nat.mul_comm]
    have e : ((2 * 2 ^ k : Nat) : Int) = 2 * ((2 ^ k : Nat) : Int) := by omega
    rw [e, ← Int.ediv_ediv_of_nonneg (by decide)]
    rw [show (2 * bz f (m + k) + if f (m + k) = 45 then 1 else 0) / 2 = bz f (m + k) by split <;> omega]
    exact ih
set_option maxHeartbeats 400000 in
theorem iShr_zz {x : Int} {k : Nat} (h0 : 0 ≤ x) (h1 : x < 2147483648) (hk : k < 32) : iShr x (k : Int) = x / ((2 ^ k : Nat) : Int) := by
  obtain ⟨a, rfl⟩ : ∃ a : Nat, x = (a : Int) := ⟨x.toNat, by omega⟩
  rw [iShr_n (by omega) hk]
  rfl
set_option maxHeartbeats 400000 in
theorem s272 {M M' : aM} {m : Nat} (h57 : M' 57 = M 57) (hm : TP M m) {a n : Nat} (hn : a + n ≤ m) (hn6 : n ≤ 6) : fnA 272 [.inr (some 53), .inl (a : Int), .inl (n : Int)] M' = some (some (.inl (bz (fun i => M 3 (a + i)) n)), M') := by
  have hm3 := hm.2.2.1
  have key : ∀ (k i : Nat), i + k = n → run 1 272 5 [.inr (some 53), .inl (a : Int), .inl (n : Int), .inl (bz (fun i => M 3 (a + i)) i), .inl (i : Int)] [] M' = some (some (.inl (bz (fun i => M 3 (a + i)) n)), M') := by
    intro k
    induction k with
    | zero =>
      intro i h
      have : n = i := by omega
      subst this
      rw [B_272_5, if_pos (Int.le_refl _)]
    | succ k ih =>
      intro i h
      have w : wr ((i : Int) + 1) = ((i + 1 : Nat) : Int) := by rw [wr_s (by omega) (by omega)]; rfl
      have w2 : wr ((a : Int) + (i : Int)) = ((a + i : Nat) : Int) := by rw [wr_s (by omega) (by omega)]; rfl
      have b0 : ¬ (n : Int) ≤ (i : Int) := by omega
      have hb := bzN_6 (fun i => M 3 (a + i)) (n := i) (by omega)
      have w3 : wr (2 * bz (fun i => M 3 (a + i)) i) = 2 * bz (fun i => M 3 (a + i)) i := wr_s (by omega) (by omega)
      have w4 : wr (2 * bz (fun i => M 3 (a + i)) i + 1) = 2 * bz (fun i => M 3 (a + i)) i + 1 := wr_s (by omega) (by omega)
      have w5 : wr (2 * bz (fun i => M 3 (a + i)) i + 0) = 2 * bz (fun i => M 3 (a + i)) i + 0 := wr_s (by omega) (by omega)
      have hih := ih (i + 1) (by omega)
      rw [bz_s] at hih
      have e2 : iAnd (M' 57 (a + i)) 255 = M 3 (a + i) := by rw [h57, ← (hm.2.2.2 (a + i) (by omega)).1]
      have ho := oct_at (M := M') (i := a + i) (by omega)
      rw [e2] at ho
      rw [B_272_5, if_neg b0, w2, ho, bI_s, w, w3, w4, w5]
      by_cases g : M 3 (a + i) = 45
      · rw [if_pos g]
        rw [if_pos g] at hih
        exact hih
      · rw [if_neg g]
        rw [if_neg g] at hih
        exact hih
  rw [E_272]
  exact key n 0 (by omega)
/- the class lays a code -/
set_option maxHeartbeats 400000 in
theorem s23 {M : aM} {m s n : Nat} (hm : TP M m) (hn : n ≤ m) (hn6 : n ≤ 6) (hs : s < 8) : ∃ M', fnA 23 [.inr (some 40), .inl (s : Int), .inr (some 2), .inl (n : Int)] M = some (none, M') ∧ M' 41 s = (n : Int) ∧ (∀ j, j ≠ s → M' 41 j = M 41 j) ∧ (∀ i, i < n → M' 42 (6 * s + i) = M 3 i) ∧ (∀ j, ¬ (6 * s ≤ j ∧ j < 6 * s + n) → M' 42 j = M 42 j) ∧ ∀ q, q ≠ 41 → q ≠ 42 → M' q = M q := by
  have key : ∀ (k i : Nat) (M2 : aM), i + k = n → (∀ j, j < i → M2 42 (6 * s + j) = M 3 j) → (∀ j, ¬ (6 * s ≤ j ∧ j < 6 * s + n) → M2 42 j = M 42 j) → M2 41 = upM M 41 s (n : Int) 41 → (∀ q, q ≠ 41 → q ≠ 42 → M2 q = M q) → ∃ M', run 1 23 27 [.inr (some 40), .inl (s : Int), .inr (some 2), .inl (n : Int), .inl (i : Int)] [] M2 = some (none, M') ∧ M' 41 s = (n : Int) ∧ (∀ j, j ≠ s → M' 41 j = M 41 j) ∧ (∀ i, i < n → M' 42 (6 * s + i) = M 3 i) ∧ (∀ j, ¬ (6 * s ≤ j ∧ j < 6 * s + n) → M' 42 j = M 42 j) ∧ ∀ q, q ≠ 41 → q ≠ 42 → M' q = M q := by
    intro k
    induction k with
    | zero =>
      intro i M2 h h1 h2 h3 h4
      have : n = i := by omega
      subst this
      exact ⟨M2, by rw [B_23_27, if_pos (Int.le_refl _)], by rw [h3, up_s], fun j hj => by rw [h3, up_j hj], h1, h2, h4⟩
    | succ k ih =>
      intro i M2 h h1 h2 h3 h4
      have w : wr ((i : Int) + 1) = ((i + 1 : Nat) : Int) := by rw [wr_s (by omega) (by omega)]; rfl
      have w2 : wr (wr ((s : Int) * 6) + (i : Int)) = ((6 * s + i : Nat) : Int) := by rw [wr_s (z := _ * 6) (by omega) (by omega), wr_s (by omega) (by omega)]; omega
      have y : 0 ≤ ((6 * s + i : Nat) : Int) ∧ ((6 * s + i : Nat) : Int) < 48 := by omega
      have b0 : ¬ (n : Int) ≤ (i : Int) := by omega
      have hm2 : TP M2 m := hm.mv (by rw [h4 2 (by decide) (by decide)]) (by rw [h4 53 (by decide) (by decide)]) (h4 3 (by decide) (by decide)) (h4 57 (by decide) (by decide))
      obtain ⟨M', g0, g1⟩ := ih (i + 1) (upM M2 42 (6 * s + i) (M 3 i)) (by omega) (fun j hj => by
        by_cases e : j = i
        · rw [e, up_s]
        · rw [up_j (by omega)]; exact h1 j (by omega)) (fun j hj => by rw [up_j (by omega)]; exact h2 j hj) (by rw [up_ne (by decide)]; exact h3) (fun q q1 q2 => by rw [up_ne q2]; exact h4 q q1 q2)
      refine ⟨M', ?_, g1⟩
      rw [B_23_27, if_neg b0, tape_at hm2 (by omega), bI_s, w2, if_pos y, Int.toNat_natCast, w, h4 3 (by decide) (by decide)]
      exact g0
  rw [E_23, if_neg (by omega), if_neg (by omega), if_pos (by omega), if_pos (by omega), Int.toNat_natCast]
  exact key n 0 (upM M 41 s (n : Int)) (by omega) (fun j hj => absurd hj (Nat.not_lt_zero j)) (fun j hj => by rw [up_ne (by decide)]) rfl (fun q q1 q2 => up_ne q1)
set_option maxHeartbeats 400000 in
theorem c_code (hW : WM W) (x y : Int) : OK2 W 166 273 [.inl x, .inl y] := fun M hI _ => by
  obtain ⟨m, hm⟩ := hI.2.2.1
  have m1 := hm.1
  have m2 := hm.2.1
  by_cases hx : 0 ≤ x ∧ x ≤ 7
  · by_cases hy : 1 ≤ y ∧ y ≤ 6
    · by_cases hym : y ≤ (m : Int)
      · obtain ⟨s, hs, rfl⟩ : ∃ s : Nat, s < 8 ∧ x = (s : Int) := ⟨x.toNat, by omega, by omega⟩
        obtain ⟨n, hn, rfl⟩ : ∃ n : Nat, n ≤ 6 ∧ y = (n : Int) := ⟨y.toNat, by omega, by omega⟩
        have hnm : n ≤ m := by omega
        have e0 : fnA 166 [.inr (some 1), .inl (s : Int), .inl (n : Int)] M = if (n : Int) ≤ ((fb (M 3) 0 n : Nat) : Int) then bV (fnA 23 [.inr (some 40), .inl (s : Int), .inr (some 2), .inl (n : Int)] M) fun M2 => bV (fnA 94 [.inr (some 2)] M2) fun M3 => some (some (.inl (n : Int)), M3) else bV (fnA 94 [.inr (some 2)] M) fun M4 => bI (fnA 179 [.inl 1, .inl ((fb (M 3) 0 n : Nat) : Int)] M4) fun w5 M5 => some (some (.inl w5), M5) := by
          rw [E_166, if_neg (by omega), if_neg (by omega), if_neg (by omega), if_neg (by omega), if_pos (by omega), s97 hm hnm, bI_s]
        have f0 : ∀ M1 : aM, M1 53 4 = M 53 4 → M1 57 = M 57 → fnA 273 [.inr (some 53), .inl (s : Int), .inl (n : Int)] M1 = bI (some (some (.inl (if fb (M 3) 0 n = n then -1 else ((fb (M 3) 0 n : Nat) : Int))), upM M1 53 4 0)) fun w3 M3 => if w3 = (-1) then if 0 ≤ (s : Int) ∧ (s : Int) < 8 then bI (fnA 272 [.inr (some 53), .inl 0, .inl (n : Int)] (upM M3 82 (Int.toNat (s : Int)) (n : Int))) fun w4 M4 => if 0 ≤ (s : Int) ∧ (s : Int) < 8 then some (some (.inl (n : Int)), upM M4 83 (Int.toNat (s : Int)) w4) else none else none else bI (fnA 271 [.inr (some 53), .inl (n : Int)] M3) fun w5 M5 => some (some (.inl (wr (((-1000)) - w5))), M5) := fun M1 h1 h2 => by
          rw [E_273, s181, bI_s, bI1_t hx, if_neg (by decide), s181, bI_s, bI1_t hy, if_neg (by decide), h1, if_pos (by omega), s271 (M := M) (by rw [up_ne (by decide)]; exact h2) hm hnm]
        have hfl := fb_le (M 3) n 0
        by_cases g : fb (M 3) 0 n = n
        · obtain ⟨M1, a0, a1, a2, a3, a4, a5⟩ := s23 hm hnm hn hs
          have h57 : upM (upM (upM M1 2 1 0) 53 4 0) 82 s (n : Int) 57 = M 57 := by rw [up_ne (by decide), up_ne (by decide), up_ne (by decide)]; exact a5 57 (by decide) (by decide)
          have h272 : fnA 272 [.inr (some 53), .inl 0, .inl (n : Int)] (upM (upM (upM M1 2 1 0) 53 4 0) 82 s (n : Int)) = some (some (.inl (bz (M 3) n)), upM (upM (upM M1 2 1 0) 53 4 0) 82 s (n : Int)) := by
            have h := s272 h57 hm (a := 0) (n := n) (by omega) hn
            rw [bz_c (g := M 3) (fun i _ => by show M 3 (0 + i) = M 3 i; rw [Nat.zero_add])] at h
            exact h
          have ys : 0 ≤ (s : Int) ∧ (s : Int) < 8 := by omega
          have hbl := fb_all (f := M 3) (k := n) (i := 0) g
          refine ⟨(n : Int), upM M1 2 1 0, upM (upM (upM (upM M1 2 1 0) 53 4 0) 82 s (n : Int)) 83 s (bz (M 3) n), ?_, ?_, ?_, ?_⟩
          · rw [e0, if_pos (by omega), a0, bV_s, E_94, bV_s]
          · rw [f0 _ (by rw [up_o (by decide), a5 53 (by decide) (by decide)]) (by rw [up_ne (by decide)]; exact a5 57 (by decide) (by decide)), bI_s, if_pos g, if_pos rfl, if_pos ys, Int.toNat_natCast, h272, bI_s, if_pos ys]
          · have ho : ∀ q, q ≠ 2 → q ≠ 41 → q ≠ 42 → q ≠ 53 → q ≠ 82 → q ≠ 83 → upM (upM (upM (upM M1 2 1 0) 53 4 0) 82 s (n : Int)) 83 s (bz (M 3) n) q = M q := fun q q1 q2 q3 q4 q5 q6 => by rw [up_ne q6, up_ne q5, up_ne q4, up_ne q1, a5 q q2 q3]
            have h53 : ∀ j, j ≠ 4 → upM (upM (upM (upM M1 2 1 0) 53 4 0) 82 s (n : Int)) 83 s (bz (M 3) n) 53 j = M 53 j := fun j hj => by rw [up_o (by decide), up_o (by decide), up_j hj, up_o (by decide), a5 53 (by decide) (by decide)]
            have h41 : ∀ j, upM (upM (upM (upM M1 2 1 0) 53 4 0) 82 s (n : Int)) 83 s (bz (M 3) n) 41 j = M1 41 j := fun j => by rw [up_o (by decide), up_o (by decide), up_o (by decide), up_o (by decide)]
            have h42 : ∀ j, upM (upM (upM (upM M1 2 1 0) 53 4 0) 82 s (n : Int)) 83 s (bz (M 3) n) 42 j = M1 42 j := fun j => by rw [up_o (by decide), up_o (by decide), up_o (by decide), up_o (by decide)]
            have h82 : ∀ j, upM (upM (upM (upM M1 2 1 0) 53 4 0) 82 s (n : Int)) 83 s (bz (M 3) n) 82 j = if j = s then (n : Int) else M 82 j := fun j => by
              rw [up_o (by decide)]
              by_cases e : j = s
              · rw [e, up_s, if_pos rfl]
              · rw [up_j e, if_neg e, up_o (by decide), up_o (by decide), a5 82 (by decide) (by decide)]
            have h83 : ∀ j, upM (upM (upM (upM M1 2 1 0) 53 4 0) 82 s (n : Int)) 83 s (bz (M 3) n) 83 j = if j = s then bz (M 3) n else M 83 j := fun j => by
              by_cases e : j = s
              · rw [e, up_s, if_pos rfl]
              · rw [up_j e, if_neg e, up_o (by decide), up_o (by decide), up_o (by decide), a5 83 (by decide) (by decide)]
            refine ⟨hI.1.mv (fun q h1 h2 => ho q (by omega) (by omega) (by omega) (by omega) (by omega) (by omega)) (ho 54 (by decide) (by decide) (by decide) (by decide) (by decide) (by decide)), hI.2.1.mv (by rw [ho 1 (by decide) (by decide) (by decide) (by decide) (by decide) (by decide)]) (h53 49 (by decide)) (fun q h1 h2 => ho q (by omega) (by omega) (by omega) (by omega) (by omega) (by omega)) (ho 56 (by decide) (by decide) (by decide) (by decide) (by decide) (by decide)), ⟨0, ?_, ?_, by decide, fun i hi => absurd hi (by omega)⟩, ?_, hW M _ (fun q hq => ho q ?_ ?_ ?_ ?_ ?_ ?_) (h53 13 (by decide)) (by rw [ho 81 (by decide) (by decide) (by decide) (by decide) (by decide) (by decide)]) hI.2.2.2.2⟩
            · rw [up_o (by decide), up_o (by decide), up_o (by decide), up_s]; rfl
            · rw [up_o (by decide), up_o (by decide), up_s]; rfl
            · intro j hj
              obtain ⟨d1, d2, d3, d4, d5⟩ := hI.2.2.2.1 j hj
              rw [h41, h82, h83]
              by_cases e : j = s
              · subst e
                rw [if_pos rfl, if_pos rfl, a1]
                refine ⟨rfl, by omega, by omega, fun i hi => ?_, ?_⟩
                · rw [h42, a3 i (by omega)]; exact hbl i (by omega) (by omega)
                · rw [Int.toNat_natCast]
                  exact bz_c (fun i hi => by rw [h42, a3 i hi])
              · rw [if_neg e, if_neg e, a2 j e]
                refine ⟨d1, d2, d3, fun i hi => ?_, ?_⟩
                · rw [h42, a4 _ (by omega)]; exact d4 i hi
                · rw [d5]
                  exact bz_c (fun i hi => by rw [h42, a4 _ (by omega)])
            all_goals (unfold lawQ at hq; simp at hq; omega)
          · rw [up_ne (by decide), up_ne (by decide), up_ne (by decide), up_ne (by decide)]; exact a5 0 (by decide) (by decide)
        · have h57 : upM (upM M 2 1 0) 53 4 0 57 = M 57 := by rw [up_ne (by decide), up_ne (by decide)]
          have w1 : wr (wr (-1000 * 1) - ((fb (M 3) 0 n : Nat) : Int)) = -1000 - ((fb (M 3) 0 n : Nat) : Int) := by rw [wr_s (z := -1000 * 1) (by omega) (by omega), wr_s (by omega) (by omega)]; rfl
          have w2 : wr (-1000 - ((fb (M 3) 0 n : Nat) : Int)) = -1000 - ((fb (M 3) 0 n : Nat) : Int) := wr_s (by omega) (by omega)
          refine ⟨-1000 - ((fb (M 3) 0 n : Nat) : Int), upM M 2 1 0, upM (upM M 2 1 0) 53 4 0, ?_, ?_, (SG.rf.cl.rl).zap hW hI, ?_⟩
          · rw [e0, if_neg (by omega), E_94, bV_s, E_179, bI_s, w1]
          · rw [f0 _ (up_o (by decide)) (up_ne (by decide)), bI_s, if_neg g, if_neg (by omega), s271 h57 hm hnm, bI_s, if_neg g, w2]
          · rw [up_ne (by decide), up_ne (by decide)]
      · refine ⟨-1, M, M, ?_, ?_, hI, rfl⟩
        · rw [E_166, if_neg (by omega), if_neg (by omega), if_neg (by omega), if_neg (by omega), if_neg (by omega)]
        · rw [E_273, s181, bI_s, bI1_t hx, if_neg (by decide), s181, bI_s, bI1_t hy, if_neg (by decide), if_neg (by omega)]
    · refine ⟨-1, M, M, ?_, ?_, hI, rfl⟩
      · rw [E_166, if_neg (by omega), if_neg (by omega)]
        by_cases h1 : y < 1
        · rw [if_pos h1]
        · rw [if_neg h1, if_pos (by omega)]
      · rw [E_273, s181, bI_s, bI1_t hx, if_neg (by decide), s181, bI_s, bI1_f hy, if_pos rfl]
  · refine ⟨-1, M, M, ?_, ?_, hI, rfl⟩
    · rw [E_166]
      by_cases h1 : x < 0
      · rw [if_pos h1]
      · rw [if_neg h1, if_pos (by omega)]
    · rw [E_273, s181, bI_s, bI1_f hx, if_pos rfl]
end COD
