/-! A bank is shut: the same sets in the same order, in both. -/
def sh4 (b : Nat) (T : Nat → Int) (e : Nat) : Nat → Int := tset (tset (tset (tset T (8 + (8 * b + e)) 0) (8 + (8 * e + b)) 0) (72 + (8 * b + e)) 0) (72 + (8 * e + b)) 0
def shl (b : Nat) (T : Nat → Int) : Nat → Nat → Int
  | 0 => T
  | n + 1 => sh4 b (shl b T n) n
theorem shl_s (b : Nat) (T : Nat → Int) (n : Nat) : shl b T (n + 1) = sh4 b (shl b T n) n := rfl
def aShut0 (T : Nat → Int) (b : Nat) : Nat → Int := tset (tset T b 0) 137 ((sk T ||| 2 ^ b : Nat) : Int)
def aShut (T : Nat → Int) (b : Nat) : Nat → Int := shl b (aShut0 T b) 8
theorem shl_lo {b : Nat} {T : Nat → Int} {j : Nat} (hb : b < 8) (hj : j < 8 ∨ 136 ≤ j) : ∀ n, n ≤ 8 → shl b T n j = T j
  | 0, _ => rfl
  | n + 1, h => by
    rw [shl_s]
    unfold sh4
    rw [ts_o (by omega), ts_o (by omega), ts_o (by omega), ts_o (by omega)]
    exact shl_lo hb hj n (by omega)
theorem shl_d {b : Nat} {T : Nat → Int} {x y : Nat} (hb : b < 8) (hx : x < 8) (hy : y < 8) : ∀ n, n ≤ 8 → shl b T n (8 + (8 * x + y)) = if x = b ∧ y < n ∨ y = b ∧ x < n then 0 else T (8 + (8 * x + y))
  | 0, _ => by rw [if_neg (by omega)]; rfl
  | n + 1, h => by
    have ih := shl_d (T := T) hb hx hy n (by omega)
    rw [shl_s]
    unfold sh4
    rw [ts_o (by omega), ts_o (by omega)]
    by_cases h1 : x = n ∧ y = b
    · rw [h1.1, h1.2, ts_s, if_pos (by omega)]
    · rw [ts_o (by omega)]
      by_cases h2 : x = b ∧ y = n
      · rw [h2.1, h2.2, ts_s, if_pos (by omega)]
      · rw [ts_o (by omega), ih]
        by_cases h3 : x = b ∧ y < n ∨ y = b ∧ x < n
        · rw [if_pos h3, if_pos (by omega)]
        · rw [if_neg h3, if_neg (by omega)]
theorem shl_h {b : Nat} {T : Nat → Int} {x y : Nat} (hb : b < 8) (hx : x < 8) (hy : y < 8) : ∀ n, n ≤ 8 → shl b T n (72 + (8 * x + y)) = if x = b ∧ y < n ∨ y = b ∧ x < n then 0 else T (72 + (8 * x + y))
  | 0, _ => by rw [if_neg (by omega)]; rfl
  | n + 1, h => by
    have ih := shl_h (T := T) hb hx hy n (by omega)
    rw [shl_s]
    unfold sh4
    by_cases h1 : x = n ∧ y = b
    · rw [h1.1, h1.2, ts_s, if_pos (by omega)]
    · rw [ts_o (by omega)]
      by_cases h2 : x = b ∧ y = n
      · rw [h2.1, h2.2, ts_s, if_pos (by omega)]
      · rw [ts_o (by omega), ts_o (by omega), ts_o (by omega), ih]
        by_cases h3 : x = b ∧ y < n ∨ y = b ∧ x < n
        · rw [if_pos h3, if_pos (by omega)]
        · rw [if_neg h3, if_neg (by omega)]
section SHUT
variable {T : Nat → Int} {b : Nat}
def TM (T : Nat → Int) : Prop := (T 136 = (tk T : Int) ∧ tk T < 256) ∧ (T 137 = (sk T : Int) ∧ sk T < 256)
theorem TM.of (h : TI T) : TM T := ⟨tk_i h, sk_i h⟩
theorem TM.lt (h : TM T) : ok T < 256 := Nat.lt_of_le_of_lt andN_le h.1.2
theorem as_d (hb : b < 8) {x y : Nat} (hx : x < 8) (hy : y < 8) : aShut T b (8 + (8 * x + y)) = if x = b ∨ y = b then 0 else T (8 + (8 * x + y)) := by
  unfold aShut
  rw [shl_d hb hx hy 8 (by omega)]
  by_cases h : x = b ∨ y = b
  · rw [if_pos h, if_pos (by omega)]
  · rw [if_neg h, if_neg (by omega)]
    unfold aShut0
    rw [ts_o (by omega), ts_o (by omega)]
theorem as_h (hb : b < 8) {x y : Nat} (hx : x < 8) (hy : y < 8) : aShut T b (72 + (8 * x + y)) = if x = b ∨ y = b then 0 else T (72 + (8 * x + y)) := by
  unfold aShut
  rw [shl_h hb hx hy 8 (by omega)]
  by_cases h : x = b ∨ y = b
  · rw [if_pos h, if_pos (by omega)]
  · rw [if_neg h, if_neg (by omega)]
    unfold aShut0
    rw [ts_o (by omega), ts_o (by omega)]
theorem as_c (hb : b < 8) {x : Nat} (hx : x < 8) : aShut T b x = if x = b then 0 else T x := by
  unfold aShut aShut0
  rw [shl_lo hb (Or.inl hx) 8 (by omega), ts_o (by omega)]
  by_cases h : x = b
  · rw [if_pos h, h, ts_s]
  · rw [if_neg h, ts_o h]
theorem as_7 (hb : b < 8) : aShut T b 137 = ((sk T ||| 2 ^ b : Nat) : Int) := by
  unfold aShut aShut0
  rw [shl_lo hb (by omega) 8 (by omega), ts_s]
theorem as_o (hb : b < 8) {j : Nat} (hj : 136 ≤ j) (h : j ≠ 137) : aShut T b j = T j := by
  unfold aShut aShut0
  rw [shl_lo hb (by omega) 8 (by omega), ts_o h, ts_o (by omega)]
theorem ok_s0 (hT : TM T) (hb : b < 8) {T' : Nat → Int} (h6 : T' 136 = T 136) (h7 : T' 137 = ((sk T ||| 2 ^ b : Nat) : Int)) : ok T' = andN (ok T) (2 ^ b) := by
  have e1 : tk T' = tk T := by unfold tk; rw [h6]
  have e2 : sk T' = sk T ||| 2 ^ b := by unfold sk; rw [h7]; rfl
  refine eq_of_bits (n := 8) (Nat.lt_of_le_of_lt andN_le (by rw [e1]; exact hT.1.2)) (Nat.lt_of_le_of_lt andN_le hT.lt) (fun i hi => ?_)
  rw [ok_bit hi, e1, e2, or_pow_bit, andN_bit (by omega), ok_bit hi, Nat.testBit_two_pow]
  cases (tk T).testBit i <;> cases (sk T).testBit i <;> simp
theorem ok_s (hT : TM T) (hb : b < 8) : ok (aShut T b) = andN (ok T) (2 ^ b) := ok_s0 hT hb (as_o hb (by omega) (by omega)) (as_7 hb)
theorem TI.shut (hT : TI T) (hb : b < 8) : TI (aShut T b) := by
  have hk := sk_i hT
  have l1 : sk T ||| 2 ^ b < 2 ^ 8 := or_pow_lt hk.2 hb
  obtain ⟨a1, a2, a3, a4, a5, a6, a7, a8⟩ := hT
  refine ⟨by rw [as_o hb (by omega) (by omega)]; exact a1, by rw [as_7 hb]; omega, fun x hx => ?_, fun j hj => ?_, fun j hj => ?_, fun y hy => ?_, ?_, ?_⟩
  · rw [as_c hb hx]
    have := a3 x hx
    split <;> omega
  · obtain ⟨x, y, hx, hy, rfl⟩ : ∃ x y, x < 8 ∧ y < 8 ∧ j = 8 * x + y := ⟨j / 8, j % 8, by omega, by omega, by omega⟩
    rw [as_d hb hx hy]
    have := a4 (8 * x + y) hj
    split <;> omega
  · obtain ⟨x, y, hx, hy, rfl⟩ : ∃ x y, x < 8 ∧ y < 8 ∧ j = 8 * x + y := ⟨j / 8, j % 8, by omega, by omega, by omega⟩
    rw [as_h hb hx hy]
    have := a5 (8 * x + y) hj
    split <;> omega
  · refine Int.le_trans (sg_le (g := fun e => T (72 + (8 * e + y))) (fun i hi => ?_)) (a6 y hy)
    rw [as_h hb hi hy]
    have := a5 (8 * i + y) (by omega)
    split <;> omega
  · rw [as_o hb (by omega) (by omega)]; exact a7
  · rw [as_o hb (by omega) (by omega)]; exact a8
theorem TZ.shut (hT : TI T) (hZ : TZ T) (hb : b < 8) : TZ (aShut T b) := by
  obtain ⟨z1, z2⟩ := hZ
  refine ⟨fun x hx hz => ?_, fun x hx => ?_⟩
  · rw [ok_s (TM.of hT) hb, andN_bit (by omega), Nat.testBit_two_pow] at hz
    rw [as_c hb hx]
    by_cases e : x = b
    · refine ⟨if_pos e, fun y hy => ?_⟩
      rw [as_d hb hx hy, as_d hb hy hx, as_h hb hx hy, as_h hb hy hx, if_pos (Or.inl e), if_pos (Or.inr e), if_pos (Or.inl e), if_pos (Or.inr e)]
      exact ⟨rfl, rfl, rfl, rfl⟩
    · have hzz : (ok T).testBit x = false := by
        have : decide (b = x) = false := by simpa using fun z : b = x => e z.symm
        rw [this] at hz
        simpa using hz
      obtain ⟨d1, d2⟩ := z1 x hx hzz
      refine ⟨by rw [if_neg e]; exact d1, fun y hy => ?_⟩
      obtain ⟨d3, d4, d5, d6⟩ := d2 y hy
      rw [as_d hb hx hy, as_d hb hy hx, as_h hb hx hy, as_h hb hy hx, d3, d4, d5, d6]
      simp
  · rw [as_d hb hx hx, as_h hb hx hx, (z2 x hx).1, (z2 x hx).2]
    simp
theorem s129 {k : Nat} {M : aM} (hk : isT k) (hC : TC M k T) (hT : TM T) (hb : b < 8) : ∃ M', fnA 129 [.inr (some k), .inl (b : Int)] M = some (none, M') ∧ TC M' k (aShut T b) ∧ ∀ q, q ≠ k → q ≠ k + 1 → q ≠ k + 2 → q ≠ k + 3 → M' q = M q := by
  have hol := hT.lt
  have e4 : iAnd (M k 4) (iXor (iShl 1 (b : Int)) (-1)) = (andN (ok T) (2 ^ b) : Int) := by rw [hC.tk.2.1, iShl_1 (by omega), iAndN (by omega)]
  let M0 := upM (upM M k 4 (andN (ok T) (2 ^ b) : Int)) (k + 1) b 0
  have hC0 : TC M0 k (aShut0 T b) := by
    obtain ⟨c1, c2, c3, c4, c5, c6, c7, c8⟩ := hC
    have hs : ∀ j, j ≠ 137 → j ≠ b → aShut0 T b j = T j := fun j h1 h2 => by unfold aShut0; rw [ts_o h1, ts_o h2]
    refine ⟨fun j hj => ?_, fun j hj => ?_, fun j hj => ?_, ?_, ?_, ?_, ?_, ?_⟩
    · show upM _ _ _ _ _ _ = _
      rw [up_r, up_o (by omega)]
      by_cases e : j = b
      · rw [if_pos ⟨rfl, e⟩, e]; unfold aShut0; rw [ts_o (by omega), ts_s]
      · rw [if_neg (fun z => e z.2), hs j (by omega) e]; exact c1 j hj
    · show upM _ _ _ _ _ _ = _
      rw [up_o (by omega), up_o (by omega), hs _ (by omega) (by omega)]; exact c2 j hj
    · show upM _ _ _ _ _ _ = _
      rw [up_o (by omega), up_o (by omega), hs _ (by omega) (by omega)]; exact c3 j hj
    · show upM _ _ _ _ _ _ = _
      rw [up_o (by omega), up_j (by omega), hs _ (by omega) (by omega)]; exact c4
    · show upM _ _ _ _ _ _ = _
      rw [up_o (by omega), up_s, ok_s0 hT hb (hs _ (by omega) (by omega)) (by unfold aShut0; rw [ts_s])]
    · show upM _ _ _ _ _ _ = _
      rw [up_o (by omega), up_j (by omega), hs _ (by omega) (by omega)]; exact c6
    · show upM _ _ _ _ _ _ = _
      rw [up_o (by omega), up_j (by omega), hs _ (by omega) (by omega)]; exact c7
    · show upM _ _ _ _ _ _ = _
      rw [up_o (by omega), up_j (by omega), hs _ (by omega) (by omega)]; exact c8
  obtain ⟨M', hs, he⟩ := upR (fun i (M' : aM) => run 2 129 31 [.inr (some k), .inl (b : Int), .inl i] [] M') (fun i M' => TC M' k (shl b (aShut0 T b) i) ∧ ∀ q, q ≠ k → q ≠ k + 1 → q ≠ k + 2 → q ≠ k + 3 → M' q = M0 q) 8 (by decide) (fun i M' hi hI => by
    obtain ⟨h1, h2⟩ := hI
    refine ⟨upM (upM (upM (upM M' (k + 2) (8 * b + i) 0) (k + 2) (8 * i + b) 0) (k + 3) (8 * b + i) 0) (k + 3) (8 * i + b) 0, ?_, ?_, fun q g1 g2 g3 g4 => ?_⟩
    · rw [B_129_31 _ _ _ _ hk, if_neg (by omega), s117 hk hb hi, bV_s, s117 hk hi hb, bV_s, s119 hk hb hi, bV_s, s119 hk hi hb, bV_s]
    · exact (((h1.debt (by omega) 0).debt (by omega) 0).shr (by omega) 0).shr (by omega) 0
    · rw [up_ne g4, up_ne g4, up_ne g3, up_ne g3]; exact h2 q g1 g2 g3 g4) 8 0 M0 (by omega) ⟨hC0, fun _ _ _ _ _ => rfl⟩
  refine ⟨M', ?_, hs.1, fun q g1 g2 g3 g4 => ?_⟩
  · rw [E_129 _ _ _ hk, s177n hb, bI_s, if_neg (by decide), if_pos (by omega), e4, Int.toNat_natCast]
    refine Eq.trans he ?_
    rw [B_129_31 _ _ _ _ hk, if_pos (by decide)]
  · rw [hs.2 q g1 g2 g3 g4]
    show upM _ _ _ _ _ = _
    rw [up_ne g2, up_ne g1]
theorem s234 {M : aM} (hR : TR M 54 T) (hT : TM T) (hb : b < 8) : ∃ M', fnA 234 [.inr (some 53), .inl (b : Int)] M = some (none, M') ∧ TR M' 54 (aShut T b) ∧ ∀ q, q ≠ 54 → M' q = M q := by
  have hk := hT.2
  have l1 : sk T ||| 2 ^ b < 2 ^ 8 := or_pow_lt hk.2 hb
  let M0 := upM (upM M 54 b 0) 54 137 ((sk T ||| 2 ^ b : Nat) : Int)
  have hR0 : TR M0 54 (aShut0 T b) := (hR.set b 0).set 137 _
  obtain ⟨M', hs, he⟩ := upR (fun i (M' : aM) => run 1 234 31 [.inr (some 53), .inl (b : Int), .inl i] [] M') (fun i M' => TR M' 54 (shl b (aShut0 T b) i) ∧ ∀ q, q ≠ 54 → M' q = M0 q) 8 (by decide) (fun i M' hi hI => by
    obtain ⟨h1, h2⟩ := hI
    refine ⟨upM (upM (upM (upM M' 54 (8 + (8 * b + i)) 0) 54 (8 + (8 * i + b)) 0) 54 (72 + (8 * b + i)) 0) 54 (72 + (8 * i + b)) 0, ?_, ?_, fun q g => ?_⟩
    · rw [B_234_31, if_neg (by omega), s190 hb hi, bI_s, if_pos (by omega), s190 hi hb, bI_s, if_pos (by omega), s191 hb hi, bI_s, if_pos (by omega), s191 hi hb, bI_s, if_pos (by omega)]
      rfl
    · exact (((h1.set _ 0).set _ 0).set _ 0).set _ 0
    · rw [up_ne g, up_ne g, up_ne g, up_ne g]; exact h2 q g) 8 0 M0 (by omega) ⟨hR0, fun _ _ => rfl⟩
  refine ⟨M', ?_, hs.1, fun q g => ?_⟩
  · rw [E_234, ix0 hb, if_pos (by omega), up_j (by omega), hR 137 (by omega), hk.1, iShl_1 (by omega), iOr_n (by omega), Int.toNat_natCast]
    refine Eq.trans he ?_
    rw [B_234_31, if_pos (by decide)]
  · rw [hs.2 q g]
    show upM _ _ _ _ _ = _
    rw [up_ne g, up_ne g]
end SHUT
