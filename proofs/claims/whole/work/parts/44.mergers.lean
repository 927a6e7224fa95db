/-! mergers: by weights of 16 and of 10, both the fewest bad ones and of these the fewest twos. -/
section MGS
def isLow (s a : Nat) : Prop := a < 8 ∧ s.testBit a = true ∧ ∀ i, i < a → s.testBit i = false
set_option maxHeartbeats 100000 in
theorem low_ex {s : Nat} (h0 : 0 < s) (hs : s < 256) : ∃ a, isLow s a := by
  have key : ∀ k i, i + k = 8 → (∀ j, j < i → s.testBit j = false) → ∃ a, isLow s a := by
    intro k
    induction k with
    | zero =>
      intro i hi h
      exfalso
      have : s = 0 := eq_of_bits (n := 8) hs (by decide) (fun j hj => by rw [h j (by omega), Nat.zero_testBit])
      omega
    | succ k ih =>
      intro i hi h
      by_cases g : s.testBit i = true
      · exact ⟨i, by omega, g, h⟩
      · refine ih (i + 1) (by omega) (fun j hj => ?_)
        by_cases e : j = i
        · rw [e]; simpa using g
        · exact h j (by omega)
  exact key 8 0 (by omega) (fun j hj => absurd hj (Nat.not_lt_zero j))
set_option maxHeartbeats 100000 in
theorem wo_sub {s b : Nat} (hs : s < 256) : sub (andN s (2 ^ b)) s := fun i hi => by
  by_cases h : i < 32
  · rw [wo_b h] at hi
    simp only [Bool.and_eq_true] at hi
    exact hi.1
  · have h1 : andN s (2 ^ b) ≤ s := andN_le
    rw [bit_lt (n := 8) (a := andN s (2 ^ b)) (by omega) (by omega)] at hi
    cases hi
def cs (W x : Int) : Int := if x < 0 then W else 0
set_option maxHeartbeats 100000 in
theorem cs_b {W x : Int} (hW : 0 ≤ W) : 0 ≤ cs W x ∧ cs W x ≤ W := by unfold cs; split <;> omega
def lcf (W : Int) (f tab : Nat → Int) (r a : Nat) : Nat → Int
  | 0 => tab r + cs W (f a)
  | b + 1 => if r.testBit b = true then min (lcf W f tab r a b) (tab (andN r (2 ^ b)) + cs W (f a + f b) + 1) else lcf W f tab r a b
set_option maxHeartbeats 100000 in
theorem lcf_s (W : Int) (f tab : Nat → Int) (r a b : Nat) : lcf W f tab r a (b + 1) = if r.testBit b = true then min (lcf W f tab r a b) (tab (andN r (2 ^ b)) + cs W (f a + f b) + 1) else lcf W f tab r a b := rfl
set_option maxHeartbeats 100000 in
theorem lcf_c {W : Int} {f t u : Nat → Int} {s r a : Nat} (hr : r < s) (h : ∀ q, q < s → t q = u q) : ∀ b, lcf W f t r a b = lcf W f u r a b
  | 0 => by unfold lcf; rw [h r hr]
  | b + 1 => by
    have h1 : andN r (2 ^ b) ≤ r := andN_le
    rw [lcf_s, lcf_s, lcf_c hr h b, h _ (by omega)]
set_option maxHeartbeats 100000 in
theorem lcf_0 {W : Int} {f t : Nat → Int} {r a : Nat} : ∀ b, (∀ i, i < b → r.testBit i = false) → lcf W f t r a b = lcf W f t r a 0
  | 0, _ => rfl
  | b + 1, h => by rw [lcf_s, if_neg (by rw [h b (by omega)]; decide)]; exact lcf_0 b (fun i hi => h i (by omega))
/-- laid for the sets below c that are in n -/
def LQ (W : Int) (f tab : Nat → Int) (n c : Nat) : Prop := tab 0 = 0 ∧ (∀ s, s < c → 0 < s → sub s n → ∀ a, isLow s a → tab s = lcf W f tab (andN s (2 ^ a)) a 8) ∧ ∀ s, s < c → sub s n → 0 ≤ tab s ∧ tab s ≤ 17 * (pct s 8 : Int)
set_option maxHeartbeats 100000 in
theorem wo_p8 {s b : Nat} (hb : b < 8) (h : s.testBit b = true) : pct (andN s (2 ^ b)) 8 + 1 = pct s 8 := by
  have := wo_pct (s := s) (b := b) (n := 8) (Nat.le_refl _) h
  rw [if_pos hb] at this
  exact this
set_option maxHeartbeats 100000 in
theorem low_of {s a i : Nat} (h : isLow s a) (hs : s < 256) (hi : i ≤ a) : (andN s (2 ^ a)).testBit i = false := by
  have := h.1
  rw [wo_b (by omega)]
  by_cases e : a = i
  · simp [e]
  · rw [h.2.2 i (by omega)]; rfl
set_option maxHeartbeats 100000 in
theorem lcf_b {W : Int} (hW : 0 ≤ W ∧ W ≤ 16) {f tab : Nat → Int} {n s a : Nat} (hs : s < 256) (hn : sub s n) (ha : isLow s a) (h : ∀ q, q < s → sub q n → 0 ≤ tab q ∧ tab q ≤ 17 * (pct q 8 : Int)) : ∀ b, b ≤ 8 → 0 ≤ lcf W f tab (andN s (2 ^ a)) a b ∧ lcf W f tab (andN s (2 ^ a)) a b ≤ 17 * (pct s 8 : Int)
  | 0, _ => by
    have h1 := h _ (wo_lt ha.1 ha.2.1) ((wo_sub hs).tr hn)
    have h2 := wo_p8 ha.1 ha.2.1
    have h3 := cs_b (W := W) (x := f a) hW.1
    unfold lcf
    omega
  | b + 1, hb => by
    have ih := lcf_b hW (f := f) hs hn ha h b (by omega)
    rw [lcf_s]
    by_cases g : (andN s (2 ^ a)).testBit b = true
    · rw [if_pos g]
      have l1 := wo_lt ha.1 ha.2.1
      have l2 := wo_lt (s := andN s (2 ^ a)) (b := b) (by omega) g
      have h1 := h (andN (andN s (2 ^ a)) (2 ^ b)) (by omega) (((wo_sub (by omega)).tr (wo_sub hs)).tr hn)
      have h3 := cs_b (W := W) (x := f a + f b) hW.1
      omega
    · rw [if_neg g]; exact ih
set_option maxHeartbeats 100000 in
theorem LQ.add {W : Int} (hW : 0 ≤ W ∧ W ≤ 16) {f tab t2 : Nat → Int} {n c a : Nat} (h : LQ W f tab n c) (h0 : 0 < c) (hc : c < 256) (ha : isLow c a) (ho : ∀ s, s < c → t2 s = tab s) (hn : sub c n → t2 c = lcf W f tab (andN c (2 ^ a)) a 8) : LQ W f t2 n (c + 1) := by
  obtain ⟨h1, h2, h3⟩ := h
  refine ⟨by rw [ho 0 h0]; exact h1, fun s hs s0 hsn a' ha' => ?_, fun s hs hsn => ?_⟩
  · by_cases e : s = c
    · subst e
      have : a' = a := by
        by_cases e1 : a' < a
        · have := ha.2.2 a' e1; rw [ha'.2.1] at this; cases this
        · by_cases e2 : a < a'
          · have := ha'.2.2 a e2; rw [ha.2.1] at this; cases this
          · omega
      subst this
      rw [hn hsn, lcf_c (t := tab) (u := t2) (wo_lt ha.1 ha.2.1) (fun q hq => (ho q hq).symm)]
    · rw [ho s (by omega), h2 s (by omega) s0 hsn a' ha', lcf_c (t := tab) (u := t2) (wo_lt ha'.1 ha'.2.1) (fun q hq => (ho q (by omega)).symm)]
  · by_cases e : s = c
    · subst e; rw [hn hsn]; exact lcf_b hW hc hsn ha h3 8 (by omega)
    · rw [ho s (by omega)]; exact h3 s (by omega) hsn
/-- bad ones and twos, in both weights -/
def RM (p : Int) (c r : Int) : Prop := ∃ a t : Int, 0 ≤ a ∧ a ≤ p ∧ 0 ≤ t ∧ 2 * t ≤ p ∧ c = 16 * a + t ∧ r = 10 * a + t
set_option maxHeartbeats 100000 in
theorem RM.min {p c r c' r' : Int} (hp : p ≤ 8) (h : RM p c r) (h' : RM p c' r') : RM p (min c c') (min r r') := by
  obtain ⟨a, t, h1, h2, h3, h4, rfl, rfl⟩ := h
  obtain ⟨a', t', g1, g2, g3, g4, rfl, rfl⟩ := h'
  by_cases e : 16 * a + t ≤ 16 * a' + t'
  · exact ⟨a, t, h1, h2, h3, h4, by omega, by omega⟩
  · exact ⟨a', t', g1, g2, g3, g4, by omega, by omega⟩
set_option maxHeartbeats 100000 in
theorem RM.all {f t u : Nat → Int} {n m : Nat} (h : LQ 16 f t n 256) (h' : LQ 10 f u m 256) : ∀ (k s : Nat), s < k → s < 256 → sub s n → sub s m → RM (pct s 8 : Int) (t s) (u s)
  | 0, s, hk, _, _, _ => absurd hk (by omega)
  | k + 1, s, hk, hs, hn, hm => by
    have p8 := pct_le s 8
    by_cases e : s = 0
    · subst e
      rw [h.1, h'.1]
      exact ⟨0, 0, by omega, by omega, by omega, by omega, rfl, rfl⟩
    · obtain ⟨a, ha⟩ := low_ex (s := s) (by omega) hs
      rw [h.2.1 s hs (by omega) hn a ha, h'.2.1 s hs (by omega) hm a ha]
      have l1 := wo_lt ha.1 ha.2.1
      have q1 := wo_p8 ha.1 ha.2.1
      have r1 := RM.all h h' k (andN s (2 ^ a)) (by omega) (by omega) ((wo_sub hs).tr hn) ((wo_sub hs).tr hm)
      have key : ∀ b, b ≤ 8 → RM (pct s 8 : Int) (lcf 16 f t (andN s (2 ^ a)) a b) (lcf 10 f u (andN s (2 ^ a)) a b) := by
        intro b
        induction b with
        | zero =>
          intro _
          obtain ⟨x, y, h1, h2, h3, h4, h5, h6⟩ := r1
          unfold lcf cs
          rw [h5, h6]
          by_cases g : f a < 0
          · rw [if_pos g, if_pos g]; exact ⟨x + 1, y, by omega, by omega, by omega, by omega, by omega, by omega⟩
          · rw [if_neg g, if_neg g]; exact ⟨x, y, by omega, by omega, by omega, by omega, by omega, by omega⟩
        | succ b ih =>
          intro hb
          have ih := ih (by omega)
          rw [lcf_s, lcf_s]
          by_cases g : (andN s (2 ^ a)).testBit b = true
          · rw [if_pos g, if_pos g]
            have l2 := wo_lt (s := andN s (2 ^ a)) (b := b) (by omega) g
            have q2 := wo_p8 (s := andN s (2 ^ a)) (b := b) (by omega) g
            have r2 := RM.all h h' k (andN (andN s (2 ^ a)) (2 ^ b)) (by omega) (by omega) (((wo_sub (by omega)).tr (wo_sub hs)).tr hn) (((wo_sub (by omega)).tr (wo_sub hs)).tr hm)
            refine RM.min (by omega) ih ?_
            obtain ⟨x, y, h1, h2, h3, h4, h5, h6⟩ := r2
            unfold cs
            rw [h5, h6]
            by_cases g : f a + f b < 0
            · rw [if_pos g, if_pos g]; exact ⟨x + 1, y + 1, by omega, by omega, by omega, by omega, by omega, by omega⟩
            · rw [if_neg g, if_neg g]; exact ⟨x, y + 1, by omega, by omega, by omega, by omega, by omega, by omega⟩
          · rw [if_neg g, if_neg g]; exact ih
      exact key 8 (by omega)
section
variable {T : Nat → Int} {M : aM}
set_option maxHeartbeats 100000 in
theorem aWorth_b (hT : TI T) {b : Nat} (hb : b < 8) : -7992 ≤ aWorth T b ∧ aWorth T b ≤ 17991 := by
  have h1 := aOwes_b hT hb
  have h2 := aGets_b hT hb
  have h3 := hT.2.2.1 b hb
  unfold aWorth; omega
set_option maxHeartbeats 100000 in
theorem s81 {s a : Nat} (hs : s < 256) (h : isLow s a) : fnA 81 [.inr (some 36), .inl (s : Int)] M = some (some (.inl (a : Int)), M) := by
  have h8 := h.1
  have key : ∀ (k i : Nat), i + k = a → run 0 81 2 [.inr (some 36), .inl (s : Int), .inl (i : Int)] [] M = some (some (.inl (a : Int)), M) := by
    intro k
    induction k with
    | zero =>
      intro i hi
      have : i = a := by omega
      subst this
      rw [B_81_2]
      by_cases g : (7 : Int) ≤ (i : Int)
      · rw [if_pos g]
      · rw [if_neg g, if_neg (fun z => by rw [iMask0 (by omega) (by omega), h.2.1] at z; cases z)]
    | succ k ih =>
      intro i hi
      have w : wr ((i : Int) + 1) = ((i + 1 : Nat) : Int) := by rw [wr_s (by omega) (by omega)]; rfl
      rw [B_81_2, if_neg (by omega), if_pos ((iMask0 (by omega) (by omega)).mpr (h.2.2 i (by omega))), w]
      exact ih (i + 1) (by omega)
  rw [E_81]
  exact key a 0 (by omega)
set_option maxHeartbeats 100000 in
theorem s82 (x : Int) : fnA 82 [.inr (some 36), .inl x] M = some (some (.inl (cs 16 x)), M) := by
  rw [E_82]
  unfold cs
  by_cases g : 0 ≤ x
  · rw [if_pos g, if_neg (by omega)]
  · rw [if_neg g, if_pos (by omega)]
set_option maxHeartbeats 100000 in
theorem s80 {n s : Nat} (h0 : 0 < s) (hs : s < 256) (hT : TI T) (hw : ∀ b, b < 8 → M 37 b = aWorth T b) (hn : sub s n) (h : LQ 16 (aWorth T) (M 39) n s) {a : Nat} (ha : isLow s a) : fnA 80 [.inr (some 36), .inl (s : Int)] M = some (some (.inl (lcf 16 (aWorth T) (M 39) (andN s (2 ^ a)) a 8)), M) := by
  have h8 := ha.1
  have l1 := wo_lt ha.1 ha.2.1
  have p8 := pct_le s 8
  have hwa := aWorth_b hT h8
  have ya : 0 ≤ (a : Int) ∧ (a : Int) < 8 := by omega
  have w : wr ((a : Int) + 1) = ((a + 1 : Nat) : Int) := by rw [wr_s (by omega) (by omega)]; rfl
  have hb := fun b hb8 => lcf_b (W := 16) (by decide) (f := aWorth T) (tab := M 39) hs hn ha h.2.2 b hb8
  have key : ∀ (k i : Nat) (v : aV), i + k = 8 → a < i → run 1 80 42 [.inr (some 36), .inl (s : Int), .inl (a : Int), .inl (andN s (2 ^ a) : Int), .inl (lcf 16 (aWorth T) (M 39) (andN s (2 ^ a)) a i), .inl (i : Int), v] [] M = some (some (.inl (lcf 16 (aWorth T) (M 39) (andN s (2 ^ a)) a 8)), M) := by
    intro k
    induction k with
    | zero =>
      intro i v hi _
      have : i = 8 := by omega
      subst this
      rw [B_80_42, if_pos (by decide)]
    | succ k ih =>
      intro i v hi hai
      have hi8 : i < 8 := by omega
      have w : wr ((i : Int) + 1) = ((i + 1 : Nat) : Int) := by rw [wr_s (by omega) (by omega)]; rfl
      have y : 0 ≤ (i : Int) ∧ (i : Int) < 8 := by omega
      rw [B_80_42, if_neg (by omega), w]
      by_cases g : (andN s (2 ^ a)).testBit i = true
      · have l2 := wo_lt (s := andN s (2 ^ a)) (b := i) (by omega) g
        have hwi := aWorth_b hT hi8
        have w1 : wr (aWorth T a + aWorth T i) = aWorth T a + aWorth T i := wr_s (by omega) (by omega)
        have hq := h.2.2 (andN (andN s (2 ^ a)) (2 ^ i)) (by omega) (((wo_sub (by omega)).tr (wo_sub hs)).tr hn)
        have pq := pct_le (andN (andN s (2 ^ a)) (2 ^ i)) 8
        have hc := cs_b (W := 16) (x := aWorth T a + aWorth T i) (by decide)
        have w2 : wr (M 39 (andN (andN s (2 ^ a)) (2 ^ i)) + cs 16 (aWorth T a + aWorth T i)) = M 39 (andN (andN s (2 ^ a)) (2 ^ i)) + cs 16 (aWorth T a + aWorth T i) := wr_s (by omega) (by omega)
        have w3 : wr (M 39 (andN (andN s (2 ^ a)) (2 ^ i)) + cs 16 (aWorth T a + aWorth T i) + 1) = M 39 (andN (andN s (2 ^ a)) (2 ^ i)) + cs 16 (aWorth T a + aWorth T i) + 1 := wr_s (by omega) (by omega)
        have ih' := fun v => ih (i + 1) v (by omega) (by omega)
        rw [lcf_s, if_pos g] at ih'
        rw [if_neg (fun z => by rw [iMask0 (by omega) (by omega), g] at z; cases z), wo_i (by omega) hi8, if_pos (by omega), if_pos ya, if_pos y, Int.toNat_natCast, Int.toNat_natCast, Int.toNat_natCast, hw a h8, hw i hi8, w1, s82, bI_s, w2, w3]
        exact ih' _
      · have ih' := ih (i + 1) v (by omega) (by omega)
        rw [lcf_s, if_neg g] at ih'
        rw [if_pos ((iMask0 (by omega) (by omega)).mpr (by simpa using g))]
        exact ih'
  have e0 : lcf 16 (aWorth T) (M 39) (andN s (2 ^ a)) a (a + 1) = M 39 (andN s (2 ^ a)) + cs 16 (aWorth T a) := lcf_0 (a + 1) (fun i hi => low_of ha hs (by omega))
  have hb0 := hb 0 (by omega)
  have e00 : lcf 16 (aWorth T) (M 39) (andN s (2 ^ a)) a 0 = M 39 (andN s (2 ^ a)) + cs 16 (aWorth T a) := rfl
  rw [e00] at hb0
  have w4 : wr (M 39 (andN s (2 ^ a)) + cs 16 (aWorth T a)) = M 39 (andN s (2 ^ a)) + cs 16 (aWorth T a) := wr_s (by omega) (by omega)
  have hk := key (8 - (a + 1)) (a + 1) (.inr none) (by omega) (by omega)
  rw [e0] at hk
  rw [E_80, s81 hs ha, bI_s, wo_i hs h8, and255 (by omega), if_pos (by omega), if_pos ya, Int.toNat_natCast, Int.toNat_natCast, hw a h8, s82, bI_s, w4, w]
  exact hk
set_option maxHeartbeats 100000 in
theorem andN_sub {s n : Nat} (hs : s < 256) : iAnd (s : Int) (iXor (n : Int) (-1)) = 0 ↔ sub s n := by
  rw [iAndN (by omega)]
  constructor
  · intro h i hi
    have h0 : andN s n = 0 := by omega
    by_cases h32 : i < 32
    · have := andN_bit (a := s) (b := n) h32
      rw [h0, Nat.zero_testBit, hi] at this
      simpa using this.symm
    · rw [bit_lt (n := 8) hs (by omega)] at hi; cases hi
  · intro h
    have : andN s n = 0 := eq_of_bits (n := 8) (Nat.lt_of_le_of_lt andN_le hs) (by decide) (fun i hi => by
      rw [andN_bit (by omega), Nat.zero_testBit]
      cases e : s.testBit i
      · rfl
      · rw [h i e]; rfl)
    rw [this]; rfl
set_option maxHeartbeats 100000 in
theorem s79w (hC : TC M 4 T) (hT : TI T) (n : Int) : ∀ (k i : Nat) (M2 : aM), i + k = 8 → PQ M M2 → (∀ b, b < i → M2 37 b = aWorth T b) → ∃ M', run 3 79 2 [.inr (some 36), .inr (some 4), .inl n, .inl (i : Int)] [] M2 = run 3 79 34 [.inr (some 36), .inr (some 4), .inl n, .inl 1] [] M' ∧ PQ M M' ∧ (∀ b, b < 8 → M' 37 b = aWorth T b) ∧ M' 39 0 = 0
  | 0, i, M2, h, h1, h2 => by
    have : i = 8 := by omega
    subst this
    refine ⟨upM M2 39 0 0, ?_, h1.up (by omega), fun b hb => by rw [up_o (by decide)]; exact h2 b hb, up_s⟩
    rw [B_79_2 _ _ _ _ (Or.inl rfl), if_pos (by decide)]
  | k + 1, i, M2, h, h1, h2 => by
    have w : wr ((i : Int) + 1) = ((i + 1 : Nat) : Int) := by rw [wr_s (by omega) (by omega)]; rfl
    have y : 0 ≤ (i : Int) ∧ (i : Int) < 8 := by omega
    rw [B_79_2 _ _ _ _ (Or.inl rfl), if_neg (by omega), s123 (Or.inl rfl) (h1.tc hC) hT (by omega), bI_s, if_pos y, Int.toNat_natCast, w]
    exact s79w hC hT n k (i + 1) _ (by omega) (h1.up (by omega)) (fun b hb => by
      by_cases e : b = i
      · rw [e, up_s]
      · rw [up_j e]; exact h2 b (by omega))
set_option maxHeartbeats 100000 in
theorem s79s (hT : TI T) {n : Nat} : ∀ (k c : Nat) (M2 : aM), c + k = 256 → 0 < c → PQ M M2 → (∀ b, b < 8 → M2 37 b = aWorth T b) → LQ 16 (aWorth T) (M2 39) n c → ∃ M', run 3 79 34 [.inr (some 36), .inr (some 4), .inl (n : Int), .inl (c : Int)] [] M2 = some (none, M') ∧ PQ M M' ∧ LQ 16 (aWorth T) (M' 39) n 256
  | 0, c, M2, h, h0, h1, h2, h3 => by
    have : c = 256 := by omega
    subst this
    exact ⟨M2, by rw [B_79_34 _ _ _ _ (Or.inl rfl), if_pos (by decide)], h1, h3⟩
  | k + 1, c, M2, h, h0, h1, h2, h3 => by
    have w : wr ((c : Int) + 1) = ((c + 1 : Nat) : Int) := by rw [wr_s (by omega) (by omega)]; rfl
    have y : 0 ≤ (c : Int) ∧ (c : Int) < 256 := by omega
    obtain ⟨a, ha⟩ := low_ex h0 (by omega : c < 256)
    rw [B_79_34 _ _ _ _ (Or.inl rfl), if_neg (by omega), w]
    by_cases g : sub c n
    · rw [if_pos ((andN_sub (by omega)).mpr g), s80 h0 (by omega) hT h2 g h3 ha, bI_s, if_pos y, Int.toNat_natCast]
      exact s79s hT k (c + 1) _ (by omega) (by omega) (h1.up (by omega)) (fun b hb => by rw [up_o (by decide)]; exact h2 b hb) (h3.add (by decide) h0 (by omega) ha (fun s hs => up_j (by omega)) (fun _ => up_s))
    · rw [if_neg (fun z => g ((andN_sub (by omega)).mp z))]
      exact s79s hT k (c + 1) _ (by omega) (by omega) h1 h2 (h3.add (by decide) h0 (by omega) ha (fun _ _ => rfl) (fun z => absurd z g))
set_option maxHeartbeats 100000 in
theorem s79 (hC : TC M 4 T) (hT : TI T) (n : Nat) : ∃ M', fnA 79 [.inr (some 36), .inr (some 4), .inl (n : Int)] M = some (none, M') ∧ PQ M M' ∧ LQ 16 (aWorth T) (M' 39) n 256 := by
  obtain ⟨M1, a1, a2, a3, a4⟩ := s79w hC hT (n : Int) 8 0 M (by omega) (fun _ _ => rfl) (fun b hb => absurd hb (Nat.not_lt_zero b))
  obtain ⟨M', b1, b2, b3⟩ := s79s (M := M) (n := n) hT 255 1 M1 (by omega) (by omega) a2 a3 ⟨a4, fun s hs s0 => absurd hs (by omega), fun s hs _ => by
    have : s = 0 := by omega
    subst this
    rw [a4]; omega⟩
  refine ⟨M', ?_, b2, b3⟩
  rw [E_79 _ _ _ (Or.inl rfl)]
  exact a1.trans b1
end
end MGS
