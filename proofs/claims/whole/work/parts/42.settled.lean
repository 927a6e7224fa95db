/-! settled. -/
section SET
/- a set without one of it -/
set_option maxHeartbeats 100000 in
theorem wo_i {s b : Nat} (hs : s < 256) (hb : b < 8) : iAnd (s : Int) (iXor (iShl 1 (b : Int)) (-1)) = (andN s (2 ^ b) : Int) := by
  rw [iShl_1 (by omega), iAndN (by omega)]
set_option maxHeartbeats 100000 in
theorem and255 {s : Nat} (hs : s < 256) : iAnd (s : Int) 255 = (s : Int) := by
  have h := iAnd_n (a := s) (b := 255) (by omega)
  have e : s &&& 255 = s := by
    have : (255 : Nat) = 2 ^ 8 - 1 := by decide
    rw [this, Nat.and_two_pow_sub_one_eq_mod]
    exact Nat.mod_eq_of_lt (by omega)
  rw [e] at h
  exact h
set_option maxHeartbeats 100000 in
theorem wo_b {s b i : Nat} (hi : i < 32) : (andN s (2 ^ b)).testBit i = (s.testBit i && !decide (b = i)) := by rw [andN_bit hi, Nat.testBit_two_pow]
set_option maxHeartbeats 100000 in
theorem wo_lt {s b : Nat} (hb : b < 8) (h : s.testBit b = true) : andN s (2 ^ b) < s := by
  have h1 : andN s (2 ^ b) ≤ s := andN_le
  by_cases e : andN s (2 ^ b) = s
  · have h2 := wo_b (s := s) (b := b) (i := b) (by omega)
    rw [e, h] at h2
    simp at h2
  · omega
set_option maxHeartbeats 100000 in
theorem wo_pct {s b : Nat} : ∀ {n : Nat}, n ≤ 8 → s.testBit b = true → pct (andN s (2 ^ b)) n + (if b < n then 1 else 0) = pct s n
  | 0, _, _ => rfl
  | n + 1, hn, h => by
    have ih := wo_pct (s := s) (b := b) (n := n) (by omega) h
    have hb := wo_b (s := s) (b := b) (i := n) (by omega)
    unfold pct
    rw [hb]
    by_cases e : b = n
    · subst e
      rw [if_neg (Nat.lt_irrefl b)] at ih
      rw [if_pos (Nat.lt_succ_self b), h]
      simp
      omega
    · by_cases g : s.testBit n = true
      · simp [g, e]
        by_cases l : b < n
        · rw [if_pos l] at ih; rw [if_pos (by omega)]; omega
        · rw [if_neg l] at ih; rw [if_neg (by omega)]; omega
      · simp [g]
        by_cases l : b < n
        · rw [if_pos l] at ih; rw [if_pos (by omega)]; omega
        · rw [if_neg l] at ih; rw [if_neg (by omega)]; omega
section
variable {f : Nat → Int}
/-- what a set comes to -/
def smS (f : Nat → Int) (s : Nat) : Nat → Int := sg (fun b => if s.testBit b = true then f b else 0)
def mxo (tab : Nat → Int) (s : Nat) : Nat → Int
  | 0 => 0
  | b + 1 => if s.testBit b = true then max (mxo tab s b) (tab (andN s (2 ^ b))) else mxo tab s b
set_option maxHeartbeats 100000 in
theorem mxo_s (tab : Nat → Int) (s b : Nat) : mxo tab s (b + 1) = if s.testBit b = true then max (mxo tab s b) (tab (andN s (2 ^ b))) else mxo tab s b := rfl
set_option maxHeartbeats 100000 in
theorem mxo_c {t u : Nat → Int} {s : Nat} (h : ∀ r, r < s → t r = u r) : ∀ b, b ≤ 8 → mxo t s b = mxo u s b
  | 0, _ => rfl
  | b + 1, hb => by
    rw [mxo_s, mxo_s, mxo_c h b (by omega)]
    by_cases g : s.testBit b = true
    · rw [if_pos g, if_pos g, h _ (wo_lt (by omega) g)]
    · rw [if_neg g, if_neg g]
def tbO (f : Nat → Int) (s : Nat) : Int := if smS f s 8 = 0 then 1 else 0
/-- laid below c -/
def GQ (f tab : Nat → Int) (c : Nat) : Prop := tab 0 = 0 ∧ (∀ s, s < c → 0 < s → tab s = mxo tab s 8 + tbO f s) ∧ ∀ s, s < c → 0 ≤ tab s ∧ tab s ≤ (s : Int)
set_option maxHeartbeats 100000 in
theorem mxo_b {tab : Nat → Int} {c : Nat} (h : ∀ s, s < c → 0 ≤ tab s ∧ tab s ≤ (s : Int)) (h0 : 0 < c) : ∀ b, b ≤ 8 → 0 ≤ mxo tab c b ∧ mxo tab c b ≤ (c : Int) - 1
  | 0, _ => ⟨Int.le_refl _, by show (0 : Int) ≤ _; omega⟩
  | b + 1, hb => by
    have ih := mxo_b h h0 b (by omega)
    rw [mxo_s]
    by_cases g : c.testBit b = true
    · have h1 := wo_lt (s := c) (b := b) (by omega) g
      have h2 := h _ h1
      rw [if_pos g]
      omega
    · rw [if_neg g]; exact ih
set_option maxHeartbeats 100000 in
theorem tbO_i (f : Nat → Int) (s : Nat) : 0 ≤ tbO f s ∧ tbO f s ≤ 1 := by unfold tbO; split <;> omega
set_option maxHeartbeats 100000 in
theorem GQ.add {tab t2 : Nat → Int} {c : Nat} (h : GQ f tab c) (h0 : 0 < c) (ho : ∀ s, s < c → t2 s = tab s) (hc : t2 c = mxo tab c 8 + tbO f c) : GQ f t2 (c + 1) := by
  obtain ⟨h1, h2, h3⟩ := h
  have hb := mxo_b h3 h0 8 (by omega)
  have ht := tbO_i f c
  refine ⟨by rw [ho 0 h0]; exact h1, fun s hs s0 => ?_, fun s hs => ?_⟩
  · by_cases e : s = c
    · subst e; rw [hc, mxo_c (t := tab) (u := t2) (fun r hr => (ho r hr).symm) 8 (by omega)]
    · rw [ho s (by omega), h2 s (by omega) s0, mxo_c (t := tab) (u := t2) (fun r hr => (ho r (by omega)).symm) 8 (by omega)]
  · by_cases e : s = c
    · subst e; rw [hc]; omega
    · rw [ho s (by omega)]; exact h3 s (by omega)
set_option maxHeartbeats 100000 in
theorem GQ.same {t u : Nat → Int} {c : Nat} (h : GQ f t c) (h' : GQ f u c) : ∀ (k s : Nat), s < k → s < c → t s = u s
  | 0, s, hk, _ => absurd hk (by omega)
  | k + 1, s, hk, hc => by
    by_cases e : s = 0
    · rw [e, h.1, h'.1]
    · rw [h.2.1 s hc (by omega), h'.2.1 s hc (by omega), mxo_c (fun r hr => GQ.same h h' k r (by omega) (by omega)) 8 (by omega)]
/-- those that are not even -/
def nzB (f : Nat → Int) : Nat → Nat
  | 0 => 0
  | n + 1 => if f n = 0 then nzB f n else nzB f n ||| 2 ^ n
set_option maxHeartbeats 100000 in
theorem nzB_s (f : Nat → Int) (n : Nat) : nzB f (n + 1) = if f n = 0 then nzB f n else nzB f n ||| 2 ^ n := rfl
set_option maxHeartbeats 100000 in
theorem nzB_lt (f : Nat → Int) : ∀ n, nzB f n < 2 ^ n
  | 0 => by show 0 < 2 ^ 0; decide
  | n + 1 => by
    have h := nzB_lt f n
    have h2 : 2 ^ (n + 1) = 2 * 2 ^ n := by rw [Nat.pow_succ, Nat.mul_comm]
    rw [nzB_s]
    split
    · omega
    · exact or_pow_lt (by omega) (by omega)
set_option maxHeartbeats 100000 in
theorem nzB_8 (f : Nat → Int) {n : Nat} (h : n ≤ 8) : nzB f n < 256 := Nat.lt_of_lt_of_le (nzB_lt f n) (Nat.pow_le_pow_right (by decide) h)
def nzC (f : Nat → Int) : Nat → Nat
  | 0 => 0
  | n + 1 => if f n = 0 then nzC f n else nzC f n + 1
set_option maxHeartbeats 100000 in
theorem nzC_s (f : Nat → Int) (n : Nat) : nzC f (n + 1) = if f n = 0 then nzC f n else nzC f n + 1 := rfl
set_option maxHeartbeats 100000 in
theorem nzC_le (f : Nat → Int) : ∀ n, nzC f n ≤ n
  | 0 => Nat.le_refl _
  | n + 1 => by have := nzC_le f n; rw [nzC_s]; split <;> omega
set_option maxHeartbeats 100000 in
theorem nzB_bit (f : Nat → Int) : ∀ n i, (nzB f n).testBit i = (decide (i < n) && decide (f i ≠ 0))
  | 0, i => by simp [nzB]
  | n + 1, i => by
    have ih := nzB_bit f n i
    rw [nzB_s]
    by_cases g : f n = 0
    · rw [if_pos g, ih]
      by_cases e : i = n
      · subst e; simp [g]
      · have : (i < n + 1) = (i < n) := propext ⟨fun _ => by omega, fun _ => by omega⟩
        simp only [this]
    · rw [if_neg g, or_pow_bit, ih]
      by_cases e : i = n
      · subst e; simp [g]
      · have : (i < n + 1) = (i < n) := propext ⟨fun _ => by omega, fun _ => by omega⟩
        have e2 : ¬ n = i := fun z => e z.symm
        simp [this, e2]
set_option maxHeartbeats 100000 in
theorem nzB_pct (f : Nat → Int) {m : Nat} : ∀ n, n ≤ m → pct (nzB f m) n = nzC f n
  | 0, _ => rfl
  | n + 1, h => by
    have ih := nzB_pct f (m := m) n (by omega)
    have hb := nzB_bit f m n
    unfold pct
    rw [ih, nzC_s, hb]
    by_cases g : f n = 0
    · simp [g]
    · have : n < m := by omega
      simp [g, this]
set_option maxHeartbeats 100000 in
theorem nzB_p12 (f : Nat → Int) : pct (nzB f 8) 12 = nzC f 8 := by
  have h := nzB_pct f (m := 8) 8 (Nat.le_refl _)
  have hb := fun i => nzB_bit f 8 i
  rw [← h]
  show (((pct (nzB f 8) 8 + _) + _) + _) + _ = _
  rw [hb 8, hb 9, hb 10, hb 11]
  simp
end
section
variable {M : aM} {T : Nat → Int}
def wo (T : Nat → Int) (b : Nat) : Int := aGets T b - aOwes T b
set_option maxHeartbeats 100000 in
theorem wo_r (hT : TI T) {b : Nat} (hb : b < 8) : -7992 ≤ wo T b ∧ wo T b ≤ 7992 := by
  have h1 := aOwes_b hT hb
  have h2 := aGets_b hT hb
  unfold wo; omega
set_option maxHeartbeats 100000 in
theorem sg_ab {f : Nat → Int} {c : Int} (hc : 0 ≤ c) : ∀ {n : Nat}, (∀ i, i < n → -c ≤ f i ∧ f i ≤ c) → -(c * (n : Int)) ≤ sg f n ∧ sg f n ≤ c * (n : Int)
  | 0, _ => by simp [sg]
  | n + 1, h => by
    have h1 := sg_ab hc (n := n) (fun i hi => h i (by omega))
    have h2 := h n (by omega)
    have e : c * ((n + 1 : Nat) : Int) = c * (n : Int) + c := by rw [Int.natCast_succ, Int.mul_add, Int.mul_one]
    rw [sg_s, e]
    omega
set_option maxHeartbeats 100000 in
theorem smS_b (hT : TI T) {s n : Nat} (hn : n ≤ 8) : -63936 ≤ smS (wo T) s n ∧ smS (wo T) s n ≤ 63936 := by
  have := sg_ab (f := fun b => if s.testBit b = true then wo T b else 0) (c := 7992) (by decide) (n := n) (fun i hi => by
    have := wo_r hT (b := i) (by omega)
    show -7992 ≤ (if s.testBit i = true then wo T i else 0) ∧ _
    split <;> omega)
  unfold smS
  omega
/-- all but Parting's cells -/
def PQ (M M' : aM) : Prop := ∀ q, ¬ (36 ≤ q ∧ q ≤ 39) → M' q = M q
set_option maxHeartbeats 100000 in
theorem PQ.sm {M M' : aM} (h : PQ M M') : SM M M' := SM.mk (P := fun q => decide (36 ≤ q ∧ q ≤ 39)) (fun q hq => by
  have : 36 ≤ q ∧ q ≤ 39 := by simpa using hq
  have e : q = 36 ∨ q = 37 ∨ q = 38 ∨ q = 39 := by omega
  rcases e with rfl | rfl | rfl | rfl <;> decide) (fun q hq => by
  have : ¬ (36 ≤ q ∧ q ≤ 39) := by simpa using hq
  exact h q this)
set_option maxHeartbeats 100000 in
theorem PQ.tc {M M' : aM} (h : PQ M M') (hC : TC M 4 T) : TC M' 4 T := hC.mv (h 4 (by omega)) (h 5 (by omega)) (h 6 (by omega)) (h 7 (by omega))
set_option maxHeartbeats 100000 in
theorem PQ.up {M M' : aM} (h : PQ M M') {q j : Nat} {x : Int} (hq : 36 ≤ q ∧ q ≤ 39) : PQ M (upM M' q j x) := fun a ha => by rw [up_ne (by omega)]; exact h a ha
set_option maxHeartbeats 100000 in
theorem s77 {s : Nat} (hs : s < 256) (hT : TI T) (h : ∀ b, b < 8 → M 37 b = wo T b) : fnA 77 [.inr (some 36), .inl (s : Int)] M = some (some (.inl (smS (wo T) s 8)), M) := by
  have key : ∀ (k i : Nat), i + k = 8 → run 0 77 4 [.inr (some 36), .inl (s : Int), .inl (smS (wo T) s i), .inl (i : Int)] [] M = some (some (.inl (smS (wo T) s 8)), M) := by
    intro k
    induction k with
    | zero =>
      intro i hi
      have : i = 8 := by omega
      subst this
      rw [B_77_4, if_pos (by decide)]
    | succ k ih =>
      intro i hi
      have w : wr ((i : Int) + 1) = ((i + 1 : Nat) : Int) := by rw [wr_s (by omega) (by omega)]; rfl
      have y : 0 ≤ (i : Int) ∧ (i : Int) < 8 := by omega
      have hih := ih (i + 1) (by omega)
      have e : smS (wo T) s (i + 1) = smS (wo T) s i + if s.testBit i = true then wo T i else 0 := rfl
      have b1 := smS_b hT (s := s) (n := i + 1) (by omega)
      rw [B_77_4, if_neg (by omega), w]
      by_cases g : s.testBit i = true
      · rw [if_neg (fun z => by rw [(iMask0 (by omega) (by omega)).mp z] at g; cases g), if_pos y, Int.toNat_natCast, h i (by omega)]
        rw [if_pos g] at e
        rw [wr_s (by omega) (by omega), ← e]
        exact hih
      · rw [if_pos ((iMask0 (by omega) (by omega)).mpr (by simpa using g))]
        rw [if_neg g, Int.add_zero] at e
        rw [← e]
        exact hih
  rw [E_77]
  exact key 8 0 (by omega)
set_option maxHeartbeats 100000 in
theorem s78 {s : Nat} (hs : s < 256) : fnA 78 [.inr (some 36), .inl (s : Int)] M = some (some (.inl (mxo (M 39) s 8)), M) := by
  have key : ∀ (k i : Nat), i + k = 8 → run 1 78 4 [.inr (some 36), .inl (s : Int), .inl (mxo (M 39) s i), .inl (i : Int)] [] M = some (some (.inl (mxo (M 39) s 8)), M) := by
    intro k
    induction k with
    | zero =>
      intro i hi
      have : i = 8 := by omega
      subst this
      rw [B_78_4, if_pos (by decide)]
    | succ k ih =>
      intro i hi
      have w : wr ((i : Int) + 1) = ((i + 1 : Nat) : Int) := by rw [wr_s (by omega) (by omega)]; rfl
      have hih := ih (i + 1) (by omega)
      rw [mxo_s] at hih
      rw [B_78_4, if_neg (by omega), w]
      by_cases g : s.testBit i = true
      · have hl := wo_lt (s := s) (b := i) (by omega) g
        rw [if_neg (fun z => by rw [(iMask0 (by omega) (by omega)).mp z] at g; cases g), wo_i hs (by omega), and255 (by omega), if_pos (by omega), Int.toNat_natCast]
        rw [if_pos g] at hih
        exact hih
      · rw [if_pos ((iMask0 (by omega) (by omega)).mpr (by simpa using g))]
        rw [if_neg g] at hih
        exact hih
  rw [E_78]
  exact key 8 0 (by omega)
set_option maxHeartbeats 100000 in
theorem s76s (hT : TI T) : ∀ (k c : Nat) (x : Int) (M2 : aM), c + k = 256 → 0 < c → PQ M M2 → (∀ b, b < 8 → M2 37 b = wo T b) → GQ (wo T) (M2 39) c → ∃ M', run 2 76 79 [.inr (some 36), .inr (some 4), .inl x, .inl (c : Int)] [] M2 = run 2 76 79 [.inr (some 36), .inr (some 4), .inl x, .inl 256] [] M' ∧ PQ M M' ∧ GQ (wo T) (M' 39) 256 ∧ M' 36 = M2 36
  | 0, c, x, M2, h, h0, h1, h2, h3 => by
    have : c = 256 := by omega
    subst this
    exact ⟨M2, rfl, h1, h3, rfl⟩
  | k + 1, c, x, M2, h, h0, h1, h2, h3 => by
    have w : wr ((c : Int) + 1) = ((c + 1 : Nat) : Int) := by rw [wr_s (by omega) (by omega)]; rfl
    have y : 0 ≤ (c : Int) ∧ (c : Int) < 256 := by omega
    have b0 : ¬ (256 : Int) ≤ (c : Int) := by omega
    have hmb := mxo_b (tab := M2 39) (c := c) h3.2.2 h0 8 (by omega)
    have hb1 : wr (mxo (M2 39) c 8 + 1) = mxo (M2 39) c 8 + 1 := wr_s (by omega) (by omega)
    have hb2 : wr (mxo (M2 39) c 8 + 0) = mxo (M2 39) c 8 + 0 := wr_s (by omega) (by omega)
    have e : run 2 76 79 [.inr (some 36), .inr (some 4), .inl x, .inl (c : Int)] [] M2 = run 2 76 79 [.inr (some 36), .inr (some 4), .inl x, .inl ((c + 1 : Nat) : Int)] [] (upM (upM M2 38 c (smS (wo T) c 8)) 39 c (mxo (M2 39) c 8 + tbO (wo T) c)) := by
      have h78 := s78 (M := upM M2 38 c (smS (wo T) c 8)) (s := c) (by omega)
      rw [up_ne (by decide)] at h78
      rw [B_76_79 _ _ _ _ (Or.inl rfl), if_neg b0, s77 (by omega) hT h2, bI_s, if_pos y, Int.toNat_natCast, h78, bI_s, if_pos y, up_s, w]
      unfold tbO
      by_cases g : smS (wo T) c 8 = 0
      · rw [if_pos g, if_pos y, if_pos g, hb1]
      · rw [if_neg g, if_pos y, if_neg g, hb2]
    obtain ⟨M', f1, f2, f3, f4⟩ := s76s hT k (c + 1) x _ (by omega) (by omega) ((h1.up (q := 38) (j := c) (x := smS (wo T) c 8) (by omega)).up (q := 39) (j := c) (x := mxo (M2 39) c 8 + tbO (wo T) c) (by omega)) (fun b hb => by rw [up_o (by decide), up_o (by decide)]; exact h2 b hb) (h3.add h0 (fun s hs => by rw [up_j (by omega), up_o (by decide)]) up_s)
    exact ⟨M', e.trans f1, f2, f3, by rw [f4, up_ne (by decide), up_ne (by decide)]⟩
set_option maxHeartbeats 100000 in
theorem s76b (hC : TC M 4 T) (hT : TI T) : ∀ (k i : Nat) (M2 : aM), i + k = 8 → PQ M M2 → (∀ b, b < i → M2 37 b = wo T b) → M2 36 3 = ((nzC (wo T) i : Nat) : Int) → ∃ M', run 2 76 9 [.inr (some 36), .inr (some 4), .inl (nzB (wo T) i : Int), .inl (i : Int)] [] M2 = run 2 76 79 [.inr (some 36), .inr (some 4), .inl (nzB (wo T) 8 : Int), .inl 1] [] M' ∧ PQ M M' ∧ (∀ b, b < 8 → M' 37 b = wo T b) ∧ M' 36 3 = ((nzC (wo T) 8 : Nat) : Int) ∧ M' 39 0 = 0
  | 0, i, M2, h, h1, h2, h3 => by
    have : i = 8 := by omega
    subst this
    refine ⟨upM (upM M2 38 0 0) 39 0 0, ?_, (h1.up (by omega)).up (by omega), fun b hb => by rw [up_o (by decide), up_o (by decide)]; exact h2 b hb, by rw [up_o (by decide), up_o (by decide)]; exact h3, up_s⟩
    rw [B_76_9 _ _ _ _ (Or.inl rfl), if_pos (by decide)]
  | k + 1, i, M2, h, h1, h2, h3 => by
    have w : wr ((i : Int) + 1) = ((i + 1 : Nat) : Int) := by rw [wr_s (by omega) (by omega)]; rfl
    have y : 0 ≤ (i : Int) ∧ (i : Int) < 8 := by omega
    have hi8 : i < 8 := by omega
    have wb := wo_r hT hi8
    have wd : wr (aGets T i - aOwes T i) = wo T i := wr_s (by unfold wo at wb; omega) (by unfold wo at wb; omega)
    have hcl := nzC_le (wo T) i
    have w2 : wr ((nzC (wo T) i : Int) + 1) = (nzC (wo T) i : Int) + 1 := wr_s (by omega) (by omega)
    have hnl := nzB_8 (wo T) (n := i) (by omega)
    rw [B_76_9 _ _ _ _ (Or.inl rfl), if_neg (by omega), s122 (Or.inl rfl) (h1.tc hC) hT hi8, bI_s, s121 (Or.inl rfl) (h1.tc hC) hT hi8, bI_s, if_pos y, if_pos y, Int.toNat_natCast, wd, up_s, w]
    by_cases g : wo T i = 0
    · rw [if_pos g]
      have := s76b hC hT k (i + 1) (upM M2 37 i (wo T i)) (by omega) (h1.up (by omega)) (fun b hb => by
        by_cases e : b = i
        · rw [e, up_s]
        · rw [up_j e]; exact h2 b (by omega)) (by rw [up_o (by decide), h3, nzC_s, if_pos g])
      rw [nzB_s, if_pos g] at this
      exact this
    · rw [if_neg g, up_o (by decide), h3, w2]
      have := s76b hC hT k (i + 1) (upM (upM M2 37 i (wo T i)) 36 3 ((nzC (wo T) i : Int) + 1)) (by omega) ((h1.up (by omega)).up (by omega)) (fun b hb => by
        rw [up_o (by decide)]
        by_cases e : b = i
        · rw [e, up_s]
        · rw [up_j e]; exact h2 b (by omega)) (by rw [up_s, nzC_s, if_neg g]; rfl)
      rw [nzB_s, if_neg g] at this
      have eo : iOr (nzB (wo T) i : Int) (iShl 1 (i : Int)) = ((nzB (wo T) i ||| 2 ^ i : Nat) : Int) := by
        rw [iShl_1 (by omega), iOr_n (by
          have := or_pow_lt (a := nzB (wo T) i) (k := i) (n := 8) hnl hi8
          omega)]
      rw [eo]
      exact this
/- the class: groups and those that are not even -/
set_option maxHeartbeats 100000 in
theorem s76 (hC : TC M 4 T) (hT : TI T) : ∃ M', fnA 76 [.inr (some 36), .inr (some 4)] M = some (some (.inl (M' 39 (nzB (wo T) 8))), M') ∧ PQ M M' ∧ GQ (wo T) (M' 39) 256 ∧ M' 36 3 = ((nzC (wo T) 8 : Nat) : Int) := by
  have h0 : PQ M (upM M 36 3 0) := PQ.up (fun _ _ => rfl) (by omega)
  obtain ⟨M1, a1, a2, a3, a4, a5⟩ := s76b hC hT 8 0 (upM M 36 3 0) (by omega) h0 (fun b hb => absurd hb (Nat.not_lt_zero b)) up_s
  obtain ⟨M', b1, b2, b3, b4⟩ := s76s (M := M) hT 255 1 (nzB (wo T) 8 : Int) M1 (by omega) (by omega) a2 a3 ⟨a5, fun s hs s0 => absurd hs (by omega), fun s hs => by
    have : s = 0 := by omega
    rw [this, a5]; exact ⟨Int.le_refl _, Int.le_refl _⟩⟩
  have hl := nzB_8 (wo T) (n := 8) (Nat.le_refl _)
  refine ⟨M', ?_, b2, b3, by rw [b4, a4]⟩
  rw [E_76 _ _ (Or.inl rfl)]
  refine a1.trans (b1.trans ?_)
  rw [B_76_79 _ _ _ _ (Or.inl rfl), if_pos (by decide), if_pos (by omega), Int.toNat_natCast]
end
end SET
