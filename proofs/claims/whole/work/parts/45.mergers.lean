/-! mergers: the reference, and the call. -/
section MGR
variable {T : Nat → Int} {R : aM}
def MR (M M' : aM) : Prop := ∀ q, q ≠ 79 → M' q = M q
/- twos with the lowest one of a set -/
set_option maxHeartbeats 100000 in
theorem s261b (hR : TR R 54 T) (hT : TI T) {x1 x2 : Int} {c a n : Nat} (h0 : 0 < c) (hc : c < 256) (ha : isLow c a) (hn : sub c n) : ∀ (k i : Nat) (v7 : aV) (R2 : aM), i + k = 8 → a < i → MR R R2 → LQ 10 (aWorth T) (R2 79) n c → R2 79 c = lcf 10 (aWorth T) (R2 79) (andN c (2 ^ a)) a i → ∃ R' w7, run 3 261 149 [.inr (some 53), .inl x1, .inl x2, .inl (c : Int), .inl (a : Int), .inl (andN c (2 ^ a) : Int), .inl (i : Int), v7] [] R2 = run 3 261 76 [.inr (some 53), .inl x1, .inl x2, .inl ((c + 1 : Nat) : Int), .inl (a : Int), .inl (andN c (2 ^ a) : Int), .inl 8, w7] [] R' ∧ MR R R' ∧ LQ 10 (aWorth T) (R' 79) n (c + 1)
  | 0, i, v7, R2, h, _, h1, h2, h3 => by
    have : i = 8 := by omega
    subst this
    have w : wr ((c : Int) + 1) = ((c + 1 : Nat) : Int) := by rw [wr_s (by omega) (by omega)]; rfl
    exact ⟨R2, v7, by rw [B_261_149, if_pos (by decide), w]; rfl, h1, h2.add (by decide) h0 hc ha (fun _ _ => rfl) (fun _ => h3)⟩
  | k + 1, i, v7, R2, h, hai, h1, h2, h3 => by
    have hi8 : i < 8 := by omega
    have w : wr ((i : Int) + 1) = ((i + 1 : Nat) : Int) := by rw [wr_s (by omega) (by omega)]; rfl
    have l1 := wo_lt ha.1 ha.2.1
    have hR2 : TR R2 54 T := hR.mv (h1 54 (by decide))
    rw [B_261_149, if_neg (by omega), s184 (by omega) (by omega), bI_s, w]
    by_cases g : (andN c (2 ^ a)).testBit i = true
    · have l2 := wo_lt (s := andN c (2 ^ a)) (b := i) hi8 g
      have hwa := aWorth_b hT ha.1
      have hwi := aWorth_b hT hi8
      have w1 : wr (aWorth T a + aWorth T i) = aWorth T a + aWorth T i := wr_s (by omega) (by omega)
      have hq := h2.2.2 (andN (andN c (2 ^ a)) (2 ^ i)) (by omega) (((wo_sub (by omega)).tr (wo_sub hc)).tr hn)
      have pq := pct_le (andN (andN c (2 ^ a)) (2 ^ i)) 8
      have w2 : wr (R2 79 (andN (andN c (2 ^ a)) (2 ^ i)) + 1) = R2 79 (andN (andN c (2 ^ a)) (2 ^ i)) + 1 := wr_s (by omega) (by omega)
      have y : 0 ≤ (c : Int) ∧ (c : Int) < 256 := by omega
      have yl : 0 ≤ (andN (andN c (2 ^ a)) (2 ^ i) : Int) ∧ (andN (andN c (2 ^ a)) (2 ^ i) : Int) < 256 := by omega
      have o1 : ∀ x : Int, ∀ s, s ≠ c → upM R2 79 c x 79 s = R2 79 s := fun x s hs => up_j hs
      have fin : ∀ x : Int, x = R2 79 (andN (andN c (2 ^ a)) (2 ^ i)) + cs 10 (aWorth T a + aWorth T i) + 1 → ∃ R' w7, run 3 261 149 [.inr (some 53), .inl x1, .inl x2, .inl (c : Int), .inl (a : Int), .inl (andN c (2 ^ a) : Int), .inl ((i + 1 : Nat) : Int), .inl x] [] (upM R2 79 c (min (lcf 10 (aWorth T) (R2 79) (andN c (2 ^ a)) a i) x)) = run 3 261 76 [.inr (some 53), .inl x1, .inl x2, .inl ((c + 1 : Nat) : Int), .inl (a : Int), .inl (andN c (2 ^ a) : Int), .inl 8, w7] [] R' ∧ MR R R' ∧ LQ 10 (aWorth T) (R' 79) n (c + 1) := fun x hx => by
        refine s261b hR hT h0 hc ha hn k (i + 1) _ _ (by omega) (by omega) (fun q hq => by rw [up_ne hq]; exact h1 q hq) ⟨by rw [o1 _ 0 (by omega)]; exact h2.1, fun s hs s0 hsn a' ha' => ?_, fun s hs hsn => by rw [o1 _ s (by omega)]; exact h2.2.2 s hs hsn⟩ ?_
        · rw [o1 _ s (by omega), h2.2.1 s hs s0 hsn a' ha', lcf_c (u := R2 79) (t := upM R2 79 c _ 79) (wo_lt ha'.1 ha'.2.1) (fun q hq => o1 _ q (by omega))]
        · rw [up_s, lcf_c (u := R2 79) (t := upM R2 79 c _ 79) l1 (fun q hq => o1 _ q (by omega)), lcf_s, if_pos g, hx]
      rw [bI1_t g, if_neg (by decide), wo_i (by omega) hi8, if_pos yl, s195 hR2 hT ha.1, bI_s, s195 hR2 hT hi8, bI_s, w1, Int.toNat_natCast, w2]
      by_cases g2 : aWorth T a + aWorth T i < 0
      · have w3 : wr (R2 79 (andN (andN c (2 ^ a)) (2 ^ i)) + 1 + 10) = R2 79 (andN (andN c (2 ^ a)) (2 ^ i)) + 1 + 10 := wr_s (by omega) (by omega)
        rw [if_neg (by omega), B_261_207, if_pos y, w3, s182, bI_s, if_pos y, Int.toNat_natCast, w, h3]
        exact fin _ (by unfold cs; rw [if_pos g2]; omega)
      · have w3 : wr (R2 79 (andN (andN c (2 ^ a)) (2 ^ i)) + 1 + 0) = R2 79 (andN (andN c (2 ^ a)) (2 ^ i)) + 1 + 0 := wr_s (by omega) (by omega)
        rw [if_pos (by omega), B_261_207, if_pos y, w3, s182, bI_s, if_pos y, Int.toNat_natCast, w, h3]
        exact fin _ (by unfold cs; rw [if_neg g2]; omega)
    · rw [bI1_f g, if_pos rfl]
      exact s261b hR hT h0 hc ha hn k (i + 1) _ _ (by omega) (by omega) h1 h2 (by rw [lcf_s, if_neg g]; exact h3)
/- all sets -/
set_option maxHeartbeats 100000 in
theorem s261s (hR : TR R 54 T) (hT : TI T) {x1 x2 : Int} : ∀ (k c : Nat) (v4 v5 v6 v7 : aV) (R2 : aM), c + k = 256 → 0 < c → MR R R2 → LQ 10 (aWorth T) (R2 79) 255 c → ∃ R' w4 w5 w6 w7, run 3 261 76 [.inr (some 53), .inl x1, .inl x2, .inl (c : Int), v4, v5, v6, v7] [] R2 = run 3 261 76 [.inr (some 53), .inl x1, .inl x2, .inl 256, w4, w5, w6, w7] [] R' ∧ MR R R' ∧ LQ 10 (aWorth T) (R' 79) 255 256
  | 0, c, v4, v5, v6, v7, R2, h, h0, h1, h2 => by
    have : c = 256 := by omega
    subst this
    exact ⟨R2, v4, v5, v6, v7, rfl, h1, h2⟩
  | k + 1, c, v4, v5, v6, v7, R2, h, h0, h1, h2 => by
    have hc : c < 256 := by omega
    obtain ⟨a, ha⟩ := low_ex h0 hc
    have h8 := ha.1
    have hn : sub c 255 := fun i hi => by
      by_cases h8 : i < 8
      · rw [show (255 : Nat) = 2 ^ 8 - 1 by decide, Nat.testBit_two_pow_sub_one]; simp [h8]
      · rw [bit_lt (n := 8) hc (by omega)] at hi; cases hi
    have l1 := wo_lt ha.1 ha.2.1
    have y : 0 ≤ (c : Int) ∧ (c : Int) < 256 := by omega
    have yl : 0 ≤ (andN c (2 ^ a) : Int) ∧ (andN c (2 ^ a) : Int) < 256 := by omega
    have hR2 : TR R2 54 T := hR.mv (h1 54 (by decide))
    -- the lowest one
    have srch : ∀ (k i : Nat), i + k = a → run 3 261 86 [.inr (some 53), .inl x1, .inl x2, .inl (c : Int), .inl (i : Int), v5, v6, v7] [] R2 = run 3 261 86 [.inr (some 53), .inl x1, .inl x2, .inl (c : Int), .inl (a : Int), v5, v6, v7] [] R2 := by
      intro k
      induction k with
      | zero => intro i hi; have : i = a := by omega
                rw [this]
      | succ k ih =>
        intro i hi
        have w : wr ((i : Int) + 1) = ((i + 1 : Nat) : Int) := by rw [wr_s (by omega) (by omega)]; rfl
        rw [B_261_86, s184 (by omega) (by omega), bI_s, bI1_f (by rw [ha.2.2 i (by omega)]; decide), if_pos rfl, w]
        exact ih (i + 1) (by omega)
    have w : wr ((a : Int) + 1) = ((a + 1 : Nat) : Int) := by rw [wr_s (by omega) (by omega)]; rfl
    have hq := h2.2.2 (andN c (2 ^ a)) l1 ((wo_sub hc).tr hn)
    have pq := pct_le (andN c (2 ^ a)) 8
    have e0 : lcf 10 (aWorth T) (R2 79) (andN c (2 ^ a)) a (a + 1) = R2 79 (andN c (2 ^ a)) + cs 10 (aWorth T a) := lcf_0 (a + 1) (fun i hi => low_of ha hc (by omega))
    have o1 : ∀ x : Int, ∀ s, s ≠ c → upM R2 79 c x 79 s = R2 79 s := fun x s hs => up_j hs
    have fin : ∀ x : Int, x = R2 79 (andN c (2 ^ a)) + cs 10 (aWorth T a) → ∃ R' w4 w5 w6 w7, run 3 261 149 [.inr (some 53), .inl x1, .inl x2, .inl (c : Int), .inl (a : Int), .inl (andN c (2 ^ a) : Int), .inl ((a + 1 : Nat) : Int), v7] [] (upM R2 79 c x) = run 3 261 76 [.inr (some 53), .inl x1, .inl x2, .inl 256, w4, w5, w6, w7] [] R' ∧ MR R R' ∧ LQ 10 (aWorth T) (R' 79) 255 256 := fun x hx => by
      obtain ⟨R3, w7, f1, f2, f3⟩ := s261b hR hT (x1 := x1) (x2 := x2) h0 hc ha hn (8 - (a + 1)) (a + 1) v7 (upM R2 79 c x) (by omega) (by omega) (fun q hq => by rw [up_ne hq]; exact h1 q hq) ⟨by rw [o1 _ 0 (by omega)]; exact h2.1, fun s hs s0 hsn a' ha' => by rw [o1 _ s (by omega), h2.2.1 s hs s0 hsn a' ha', lcf_c (u := R2 79) (t := upM R2 79 c x 79) (wo_lt ha'.1 ha'.2.1) (fun q hq => o1 _ q (by omega))], fun s hs hsn => by rw [o1 _ s (by omega)]; exact h2.2.2 s hs hsn⟩ (by rw [up_s, lcf_c (u := R2 79) (t := upM R2 79 c x 79) l1 (fun q hq => o1 _ q (by omega)), e0, hx])
      obtain ⟨R', u4, u5, u6, u7, g1, g2, g3⟩ := s261s hR hT (x1 := x1) (x2 := x2) k (c + 1) (.inl (a : Int)) (.inl (andN c (2 ^ a) : Int)) (.inl 8) w7 R3 (by omega) (by omega) f2 f3
      exact ⟨R', u4, u5, u6, u7, f1.trans g1, g2, g3⟩
    have s0 := srch a 0 (by omega)
    have s0' : run 3 261 86 [.inr (some 53), .inl x1, .inl x2, .inl (c : Int), .inl 0, v5, v6, v7] [] R2 = run 3 261 86 [.inr (some 53), .inl x1, .inl x2, .inl (c : Int), .inl (a : Int), v5, v6, v7] [] R2 := s0
    rw [B_261_76, if_neg (by omega), s0', B_261_86, s184 (by omega) (by omega), bI_s, bI1_t ha.2.1, if_neg (by decide), wo_i hc h8, if_pos yl, s195 hR2 hT h8, bI_s, w, Int.toNat_natCast, Int.toNat_natCast]
    by_cases g2 : aWorth T a < 0
    · have w3 : wr (R2 79 (andN c (2 ^ a)) + 10) = R2 79 (andN c (2 ^ a)) + 10 := wr_s (by omega) (by omega)
      rw [if_neg (by omega), if_pos y, w3]
      exact fin _ (by unfold cs; rw [if_pos g2])
    · have w3 : wr (R2 79 (andN c (2 ^ a)) + 0) = R2 79 (andN c (2 ^ a)) + 0 := wr_s (by omega) (by omega)
      rw [if_pos (by omega), if_pos y, w3]
      exact fin _ (by unfold cs; rw [if_neg g2])
/- the mask of any int -/
set_option maxHeartbeats 100000 in
theorem nI_mod {x : Int} (hx : inR x) : Int32.ofInt x = nI (x % 4294967296).toNat := by
  rw [← oI]
  apply Int32.toBitVec_inj.1
  apply BitVec.eq_of_toNat_eq
  show (BitVec.ofInt 32 x).toNat = (BitVec.ofInt 32 ((x % 4294967296).toNat : Int)).toNat
  rw [BitVec.toNat_ofInt, BitVec.toNat_ofInt]
  have h2 : ((2 ^ 32 : Nat) : Int) = 4294967296 := by decide
  rw [h2]
  omega
set_option maxHeartbeats 100000 in
theorem nI_z {v : Nat} (hv : v < 4294967296) (h : (nI v).toInt = 0) : v = 0 := by
  have h1 : (nI v).toInt = (nI 0).toInt := by rw [h]; decide
  have h2 := Int32.toInt_inj.1 h1
  have h3 : (nI v).toBitVec = (nI 0).toBitVec := by rw [h2]
  have h4 : (BitVec.ofNat 32 v).toNat = (BitVec.ofNat 32 0).toNat := congrArg BitVec.toNat h3
  rw [BitVec.toNat_ofNat, BitVec.toNat_ofNat] at h4
  omega
set_option maxHeartbeats 100000 in
theorem iAndN_any {x : Int} (hx : inR x) {k : Nat} (hk : k < 256) (h : iAnd x (iXor (k : Int) (-1)) = 0) : ∃ n : Nat, n < 256 ∧ x = (n : Int) ∧ sub n k := by
  unfold iAnd iXor at h
  rw [i_bit, oI, nI_mod hx, show Int32.ofInt (-1) = nI 4294967295 by decide +kernel, n_xor, n_and] at h
  have hu : (x % 4294967296).toNat < 4294967296 := by omega
  have h0 := nI_z (Nat.lt_of_le_of_lt Nat.and_le_left hu) h
  have hb : ∀ i, i < 32 → (x % 4294967296).toNat.testBit i = true → k.testBit i = true := fun i hi hb => by
    have := andN_bit (a := (x % 4294967296).toNat) (b := k) hi
    unfold andN at this
    rw [h0, Nat.zero_testBit, hb] at this
    simpa using this.symm
  have h8 : (x % 4294967296).toNat < 2 ^ 8 := Nat.lt_pow_two_of_testBit _ (fun i hi => by
    by_cases h32 : i < 32
    · cases e : (x % 4294967296).toNat.testBit i
      · rfl
      · have := hb i h32 e
        rw [bit_lt (n := 8) hk hi] at this; cases this
    · exact bit_lt (n := 32) hu (by omega))
  unfold inR at hx
  refine ⟨(x % 4294967296).toNat, h8, by omega, fun i hi => ?_⟩
  by_cases h32 : i < 32
  · exact hb i h32 hi
  · rw [bit_lt (n := 32) hu (by omega)] at hi; cases hi
/- are they all open -/
set_option maxHeartbeats 100000 in
theorem s261o (hR : TR R 54 T) (hT : TI T) {n : Nat} (hn : n < 256) (x2 : Int) : ∀ (k i : Nat), i + k = 8 → (sub n (ok T) → run 3 261 37 [.inr (some 53), .inl (n : Int), .inl x2, .inl (i : Int), .inr none, .inr none, .inr none, .inr none] [] R = run 3 261 37 [.inr (some 53), .inl (n : Int), .inl x2, .inl 8, .inr none, .inr none, .inr none, .inr none] [] R) ∧ ((∃ j, i ≤ j ∧ j < 8 ∧ n.testBit j = true ∧ (ok T).testBit j = false) → run 3 261 37 [.inr (some 53), .inl (n : Int), .inl x2, .inl (i : Int), .inr none, .inr none, .inr none, .inr none] [] R = some (some (.inl (-1)), R))
  | 0, i, h => by
    have : i = 8 := by omega
    subst this
    exact ⟨fun _ => rfl, fun ⟨j, h1, h2, _⟩ => absurd h2 (by omega)⟩
  | k + 1, i, h => by
    have hi8 : i < 8 := by omega
    have w : wr ((i : Int) + 1) = ((i + 1 : Nat) : Int) := by rw [wr_s (by omega) (by omega)]; rfl
    obtain ⟨ih1, ih2⟩ := s261o hR hT hn x2 k (i + 1) (by omega)
    have e : run 3 261 37 [.inr (some 53), .inl (n : Int), .inl x2, .inl (i : Int), .inr none, .inr none, .inr none, .inr none] [] R = if n.testBit i = true ∧ (ok T).testBit i = false then some (some (.inl (-1)), R) else run 3 261 37 [.inr (some 53), .inl (n : Int), .inl x2, .inl ((i + 1 : Nat) : Int), .inr none, .inr none, .inr none, .inr none] [] R := by
      rw [B_261_37, if_neg (by omega), s184 (by omega) (by omega), bI_s, w]
      by_cases g : n.testBit i = true
      · rw [bI1_t g, if_neg (by decide), s188 hR hT, bI_s]
        by_cases g2 : (ok T).testBit i = true
        · rw [bI1_t ((tb_n hi8).mpr g2), if_neg (by decide), if_neg (fun z => by rw [z.2] at g2; cases g2)]
        · rw [bI1_f (fun z => g2 ((tb_n hi8).mp z)), if_pos rfl, if_pos ⟨g, by simpa using g2⟩]
      · rw [bI1_f g, if_pos rfl, if_neg (fun z => g z.1)]
    refine ⟨fun hs => ?_, fun ⟨j, h1, h2, h3, h4⟩ => ?_⟩
    · rw [e, if_neg (fun z => by rw [hs i z.1] at z; exact absurd z.2 (by decide))]
      exact ih1 hs
    · rw [e]
      by_cases g : n.testBit i = true ∧ (ok T).testBit i = false
      · rw [if_pos g]
      · rw [if_neg g]
        refine ih2 ⟨j, ?_, h2, h3, h4⟩
        by_cases e : i = j
        · subst e; exact absurd ⟨h3, h4⟩ g
        · omega
set_option maxHeartbeats 100000 in
theorem pct_0 : ∀ n, pct 0 n = 0
  | 0 => rfl
  | n + 1 => by unfold pct; rw [pct_0 n, Nat.zero_testBit]; rfl
set_option maxHeartbeats 100000 in
theorem pct_12 {s : Nat} (hs : s < 256) : pct s 12 = pct s 8 := by
  show (((pct s 8 + _) + _) + _) + _ = _
  have b8 : s.testBit 8 = false := bit_lt (n := 8) hs (by decide)
  have b9 : s.testBit 9 = false := bit_lt (n := 8) hs (by decide)
  have b10 : s.testBit 10 = false := bit_lt (n := 8) hs (by decide)
  have b11 : s.testBit 11 = false := bit_lt (n := 8) hs (by decide)
  rw [b8, b9, b10, b11]
  simp
set_option maxHeartbeats 100000 in
theorem c_mergers {W : aM → Prop} (hW : WM W) (x y : Int) (hxr : inR x) : OK2 W 155 261 [.inl x, .inl y] := fun M hI _ => by
  obtain ⟨T, hC, hR, hT, hZ⟩ := hI.1
  have hok := ok_lt hT
  have e44 : M 4 4 = (ok T : Int) := hC.tk.2.1
  have eC : fnA 155 [.inr (some 1), .inl x, .inl y] M = if iAnd x (iXor (ok T : Int) (-1)) = 0 then run 4 155 19 [.inr (some 1), .inl x, .inl y, .inr none] [.inl 1] M else some (some (.inl (-1)), M) := by
    rw [E_155, e44]
    by_cases g : iAnd x (iXor (ok T : Int) (-1)) = 0
    · rw [if_pos g, if_pos g]
    · rw [if_neg g, if_neg g, B_155_19, if_pos rfl]
  have eR1 : ∀ n : Nat, x = (n : Int) → 0 < n → n < 256 → fnA 261 [.inr (some 53), .inl x, .inl y] M = if 2 ≤ pct n 12 then (if 0 ≤ y ∧ y ≤ 1 then run 3 261 37 [.inr (some 53), .inl x, .inl y, .inl 0, .inr none, .inr none, .inr none, .inr none] [] M else some (some (.inl (-1)), M)) else some (some (.inl (-1)), M) := fun n e h0 h1 => by
    subst e
    have hp := pct_12 h1
    have hp8 := pct_le n 8
    rw [E_261, s181, bI_s, bI1_t (by omega), if_neg (by decide), s185 (by omega), bI_s, s181, bI_s]
    by_cases g : 2 ≤ pct n 12
    · rw [bI1_t (by omega), if_neg (by decide), if_pos g, s181, bI_s]
      by_cases g2 : 0 ≤ y ∧ y ≤ 1
      · rw [bI1_t g2, if_neg (by decide), if_pos g2]
      · rw [bI1_f g2, if_pos rfl, if_neg g2]
    · rw [bI1_f (by omega), if_pos rfl, if_neg g]
  have eR0 : ¬ (1 ≤ x ∧ x ≤ 255) → fnA 261 [.inr (some 53), .inl x, .inl y] M = some (some (.inl (-1)), M) := fun h => by
    rw [E_261, s181, bI_s, bI1_f h, if_pos rfl]
  by_cases g : iAnd x (iXor (ok T : Int) (-1)) = 0
  · obtain ⟨n, hn, rfl, hsub⟩ := iAndN_any hxr hok g
    rw [if_pos g, B_155_19, if_neg (by decide), s287 (by omega), bI_s] at eC
    by_cases g2 : 2 ≤ pct n 12
    · have hn0 : 0 < n := by
        by_cases e : n = 0
        · rw [e, pct_0] at g2; omega
        · omega
      rw [if_neg (by omega)] at eC
      have eR := eR1 n rfl hn0 hn
      rw [if_pos g2] at eR
      by_cases g3 : 0 ≤ y ∧ y ≤ 1
      · rw [if_pos g3] at eR
        obtain ⟨M1, a1, a2, a3⟩ := s79 hC hT n
        have hI1 := a2.sm.inv hW hI
        have hR1 : TR M1 54 T := hR.mv (a2 54 (by omega))
        obtain ⟨R', u4, u5, u6, u7, b1, b2, b3⟩ := s261s (R := M1) (x1 := (n : Int)) (x2 := y) hR1 hT 255 1 (.inr none) (.inr none) (.inr none) (.inr none) (upM M1 79 0 0) (by omega) (by omega) (fun q hq => up_ne hq) ⟨up_s, fun s hs s0 => absurd hs (by omega), fun s hs _ => by
          have : s = 0 := by omega
          subst this
          rw [up_s]; omega⟩
        have hsub5 : sub n 255 := fun i hi => by
          by_cases h8 : i < 8
          · rw [show (255 : Nat) = 2 ^ 8 - 1 by decide, Nat.testBit_two_pow_sub_one]; simp [h8]
          · rw [bit_lt (n := 8) hn (by omega)] at hi; cases hi
        obtain ⟨bd, tw, r1, r2, r3, r4, r5, r6⟩ := RM.all a3 b3 256 n hn hn (sub_rf n) hsub5
        have p8 := pct_le n 8
        have eC2 : fnA 155 [.inr (some 1), .inl (n : Int), .inl y] M = run 4 155 43 [.inr (some 1), .inl (n : Int), .inl y, .inl 1] [] M := by
          rw [eC]
          by_cases y0 : y = 0
          · rw [if_pos y0]
          · rw [if_neg y0, if_pos (by omega)]
        have eR2 : fnA 261 [.inr (some 53), .inl (n : Int), .inl y] M1 = run 3 261 76 [.inr (some 53), .inl (n : Int), .inl y, .inl 256, u4, u5, u6, u7] [] R' := by
          have eRM : fnA 261 [.inr (some 53), .inl (n : Int), .inl y] M1 = run 3 261 37 [.inr (some 53), .inl (n : Int), .inl y, .inl 0, .inr none, .inr none, .inr none, .inr none] [] M1 := by
            have hp := pct_12 hn
            rw [E_261, s181, bI_s, bI1_t (by omega), if_neg (by decide), s185 (by omega), bI_s, s181, bI_s, bI1_t (by omega), if_neg (by decide), s181, bI_s, bI1_t g3, if_neg (by decide)]
          have ho := (s261o (R := M1) hR1 hT hn y 8 0 (by omega)).1 hsub
          refine eRM.trans (Eq.trans ho ?_)
          rw [B_261_37, if_pos (by decide)]
          exact b1
        have hinv : INV W R' := (SM.one (c := 79) (by decide) b2).inv hW hI1
        have h0 : R' 0 = M 0 := by rw [b2 0 (by decide), a2 0 (by omega)]
        have yn : 0 ≤ (n : Int) ∧ (n : Int) < 256 := by omega
        by_cases y0 : y = 0
        · refine ⟨bd, M1, R', ?_, ?_, hinv, h0⟩
          · rw [eC2, B_155_43, a1, bV_s, if_pos y0, E_83, and255 hn, if_pos yn, Int.toNat_natCast, r5, bI_s]
            have e : wr ((16 * bd + tw).tdiv 16) = bd := by
              rw [Int.tdiv_eq_ediv_of_nonneg (by omega), wr_s (by omega) (by omega)]; omega
            rw [e]
          · have e : wr ((10 * bd + tw).tdiv 10) = bd := by
              rw [Int.tdiv_eq_ediv_of_nonneg (by omega), wr_s (by omega) (by omega)]; omega
            rw [eR2, B_261_76, if_pos (by decide), if_pos y0, if_pos yn, Int.toNat_natCast, r6, e]
        · refine ⟨tw, M1, R', ?_, ?_, hinv, h0⟩
          · have e : (16 * bd + tw).tmod 16 = tw := by
              rw [Int.tmod_eq_emod_of_nonneg (by omega)]; omega
            rw [eC2, B_155_43, a1, bV_s, if_neg y0, E_84, and255 hn, if_pos yn, Int.toNat_natCast, r5, bI_s, e]
          · have e : (10 * bd + tw).tmod 10 = tw := by
              rw [Int.tmod_eq_emod_of_nonneg (by omega)]; omega
            rw [eR2, B_261_76, if_pos (by decide), if_neg y0, if_pos yn, Int.toNat_natCast, r6, e]
      · rw [if_neg g3] at eR
        rw [if_neg (by omega), if_neg (by omega)] at eC
        exact ⟨-1, M, M, eC, eR, hI, rfl⟩
    · rw [if_pos (by omega)] at eC
      refine ⟨-1, M, M, eC, ?_, hI, rfl⟩
      by_cases hn0 : n = 0
      · exact eR0 (by omega)
      · rw [eR1 n rfl (by omega) hn, if_neg g2]
  · rw [if_neg g] at eC
    refine ⟨-1, M, M, eC, ?_, hI, rfl⟩
    by_cases hx : 1 ≤ x ∧ x ≤ 255
    · obtain ⟨n, hn, rfl⟩ : ∃ n : Nat, n < 256 ∧ x = (n : Int) := ⟨x.toNat, by omega, by omega⟩
      rw [eR1 n rfl (by omega) hn]
      by_cases g2 : 2 ≤ pct n 12
      · rw [if_pos g2]
        by_cases g3 : 0 ≤ y ∧ y ≤ 1
        · rw [if_pos g3]
          refine (s261o (R := M) hR hT hn y 8 0 (by omega)).2 ?_
          have hns : ¬ sub n (ok T) := fun z => g ((andN_sub hn).mpr z)
          by_cases hx : ∃ j, 0 ≤ j ∧ j < 8 ∧ n.testBit j = true ∧ (ok T).testBit j = false
          · exact hx
          · refine absurd (fun i hi => ?_) hns
            by_cases h8 : i < 8
            · cases e : (ok T).testBit i
              · exact absurd ⟨i, by omega, h8, hi, e⟩ hx
              · rfl
            · rw [bit_lt (n := 8) hn (by omega)] at hi; cases hi
        · rw [if_neg g3]
      · rw [if_neg g2]
    · exact eR0 hx
end MGR
