/-! What the reference reads of its town. -/
section RFN
variable {T : Nat → Int} {M : aM}
theorem s181 (x a b : Int) (M : aM) : fnA 181 [.inl x, .inl a, .inl b] M = some (some (.inl (bI1 (a ≤ x ∧ x ≤ b))), M) := by
  rw [E_181]
  by_cases h1 : x < a
  · rw [if_pos h1, bI1_f (by omega)]
  · rw [if_neg h1]
    by_cases h2 : b < x
    · rw [if_pos h2, bI1_f (by omega)]
    · rw [if_neg h2, bI1_t (by omega)]
theorem s182 (x y : Int) (M : aM) : fnA 182 [.inl x, .inl y] M = some (some (.inl (min x y)), M) := by
  rw [E_182]
  by_cases h : y ≤ x
  · rw [if_pos h, Int.min_eq_right h]
  · rw [if_neg h, Int.min_eq_left (by omega)]
theorem s183 (x y : Int) (M : aM) : fnA 183 [.inl x, .inl y] M = some (some (.inl (max x y)), M) := by
  rw [E_183]
  by_cases h : x ≤ y
  · rw [if_pos h, Int.max_eq_right h]
  · rw [if_neg h, Int.max_eq_left (by omega)]
theorem s184 {s k : Nat} (hs : s < 2147483648) (hk : k < 32) (M : aM) : fnA 184 [.inl (s : Int), .inl (k : Int)] M = some (some (.inl (bI1 (s.testBit k = true))), M) := by
  rw [E_184, iBit hs hk]
  by_cases h : s.testBit k = true
  · rw [if_pos h, if_pos rfl, bI1_t h]
  · rw [if_neg h, if_neg (by decide), bI1_f h]
theorem s185 {s : Nat} (hs : s < 2147483648) (M : aM) : fnA 185 [.inl (s : Int)] M = some (some (.inl (pct s 12 : Int)), M) := by
  rw [E_185]
  have key : ∀ n i, i + n = 12 → run 0 185 4 [.inl (s : Int), .inl (pct s i : Int), .inl (i : Int)] [] M = some (some (.inl (pct s 12 : Int)), M) := by
    intro n
    induction n with
    | zero => intro i h; have : i = 12 := by omega
              subst this; rw [B_185_4, if_pos (by decide)]
    | succ n ih =>
      intro i h
      have h1 := pct_le s i
      rw [B_185_4, if_neg (by omega), iBit hs (by omega), wr_s (z := (i : Int) + 1) (by omega) (by omega), wr_s (by split <;> omega) (by split <;> omega)]
      have := ih (i + 1) (by omega)
      rw [show (pct s (i + 1) : Int) = (pct s i : Int) + (if s.testBit i = true then 1 else 0) by simp only [pct]; split <;> simp] at this
      exact this
  exact key 12 0 (by omega)
theorem tb_okt {x : Int} (z : tb (ok T) x) : tb (tk T) x := by
  obtain ⟨h1, h2, h3⟩ := z
  refine ⟨h1, h2, ?_⟩
  rw [ok_bit (by omega)] at h3
  simp only [Bool.and_eq_true] at h3
  exact h3.1
theorem s187 (hR : TR M 54 T) (hI : TI T) (x : Int) : fnA 187 [.inr (some 53), .inl x] M = some (some (.inl (bI1 (tb (tk T) x))), M) := by
  rw [E_187, s181, bI_s]
  by_cases h : 0 ≤ x ∧ x ≤ 7
  · rw [bI1_t h, if_neg (by decide), hR 136 (by decide), (tk_i hI).1]
    obtain ⟨a, rfl⟩ : ∃ a : Nat, x = (a : Int) := ⟨x.toNat, by omega⟩
    have ha : a < 8 := by omega
    rw [s184 (by have := (tk_i hI).2; omega) (by omega), bI_s]
    by_cases hb : (tk T).testBit a = true
    · rw [bI1_t hb, if_neg (by decide), bI1_t ((tb_n ha).mpr hb)]
    · rw [bI1_f hb, if_pos rfl, bI1_f (fun z => hb ((tb_n ha).mp z))]
  · rw [bI1_f h, if_pos rfl, bI1_f (fun z => h ⟨z.1, by have := z.2.1; omega⟩)]
theorem s188 (hR : TR M 54 T) (hI : TI T) (x : Int) : fnA 188 [.inr (some 53), .inl x] M = some (some (.inl (bI1 (tb (ok T) x))), M) := by
  rw [E_188, s187 hR hI, bI_s]
  by_cases h : tb (tk T) x
  · rw [bI1_t h, if_neg (by decide), hR 137 (by decide), (sk_i hI).1]
    have h1 := h.1
    have h2 := h.2.1
    obtain ⟨a, rfl⟩ : ∃ a : Nat, x = (a : Int) := ⟨x.toNat, by omega⟩
    have ha : a < 8 := by omega
    have ht := (tb_n ha).mp h
    rw [s184 (by have := (sk_i hI).2; omega) (by omega), bI_s]
    have ho := ok_bit (T := T) ha
    rw [ht] at ho
    by_cases hb : (sk T).testBit a = true
    · rw [hb] at ho
      rw [bI1_t hb, if_neg (by decide), bI1_f (fun z => by rw [tb_n ha] at z; rw [ho] at z; cases z)]
    · have hb' : (sk T).testBit a = false := by simpa using hb
      rw [hb'] at ho
      rw [bI1_f hb, if_pos rfl, bI1_t ((tb_n ha).mpr (by rw [ho]; rfl))]
  · rw [bI1_f h, if_pos rfl, bI1_f (fun z => h (tb_okt z))]
theorem s189 (hR : TR M 54 T) (hI : TI T) (x y : Int) : fnA 189 [.inr (some 53), .inl x, .inl y] M = some (some (.inl (bI1 (x ≠ y ∧ tb (ok T) x ∧ tb (ok T) y))), M) := by
  rw [E_189, s188 hR hI, bI_s]
  by_cases h1 : tb (ok T) x
  · rw [bI1_t h1, if_neg (by decide), s188 hR hI, bI_s]
    by_cases h2 : tb (ok T) y
    · rw [bI1_t h2, if_neg (by decide)]
      by_cases h : x = y
      · rw [if_pos h, bI1_f (fun z => z.1 h)]
      · rw [if_neg h, bI1_t ⟨h, h1, h2⟩]
    · rw [bI1_f h2, if_pos rfl, bI1_f (fun z => h2 z.2.2)]
  · rw [bI1_f h1, if_pos rfl, bI1_f (fun z => h1 z.2.1)]
theorem s190 {a b : Nat} (ha : a < 8) (hb : b < 8) (M : aM) : fnA 190 [.inl (a : Int), .inl (b : Int)] M = some (some (.inl ((8 + (8 * a + b) : Nat) : Int)), M) := by rw [E_190, ixD ha hb]
theorem s191 {a b : Nat} (ha : a < 8) (hb : b < 8) (M : aM) : fnA 191 [.inl (a : Int), .inl (b : Int)] M = some (some (.inl ((72 + (8 * a + b) : Nat) : Int)), M) := by rw [E_191, ixS ha hb]
theorem s192 (hR : TR M 54 T) (hI : TI T) {b : Nat} (hb : b < 8) : fnA 192 [.inr (some 53), .inl (b : Int)] M = some (some (.inl (aOwes T b)), M) := by
  rw [E_192]
  refine sumU (fun i s => run 1 192 4 [.inr (some 53), .inl (b : Int), .inl s, .inl i] [] M) (fun e => T (8 + (8 * b + e))) 8 999 (fun s => some (some (.inl s), M)) (fun i hi => dI hI hb hi) (by decide) (by decide) (fun i s hi => ?_) (fun s => ?_)
  · rw [B_192_4, if_neg (by omega), s190 hb hi, bI_s, if_pos (by omega), Int.toNat_natCast, hR _ (by omega)]
  · rw [B_192_4, if_pos (by decide)]
theorem s193 (hR : TR M 54 T) (hI : TI T) {b : Nat} (hb : b < 8) : fnA 193 [.inr (some 53), .inl (b : Int)] M = some (some (.inl (aGets T b)), M) := by
  rw [E_193]
  refine sumU (fun i s => run 1 193 4 [.inr (some 53), .inl (b : Int), .inl s, .inl i] [] M) (fun e => T (8 + (8 * e + b))) 8 999 (fun s => some (some (.inl s), M)) (fun i hi => dI hI hi hb) (by decide) (by decide) (fun i s hi => ?_) (fun s => ?_)
  · rw [B_193_4, if_neg (by omega), s190 hi hb, bI_s, if_pos (by omega), Int.toNat_natCast, hR _ (by omega)]
  · rw [B_193_4, if_pos (by decide)]
theorem s194 (hR : TR M 54 T) (hI : TI T) : fnA 194 [.inr (some 53)] M = some (some (.inl (aAll T)), M) := by
  rw [E_194]
  refine sumU (fun i s => run 2 194 4 [.inr (some 53), .inl s, .inl i] [] M) (aOwes T) 8 7992 (fun s => some (some (.inl s), M)) (fun i hi => aOwes_b hI hi) (by decide) (by decide) (fun i s hi => ?_) (fun s => ?_)
  · rw [B_194_4, if_neg (by omega), s192 hR hI hi, bI_s]
  · rw [B_194_4, if_pos (by decide)]
theorem s195 (hR : TR M 54 T) (hI : TI T) {b : Nat} (hb : b < 8) : fnA 195 [.inr (some 53), .inl (b : Int)] M = some (some (.inl (aWorth T b)), M) := by
  have h1 := aOwes_b hI hb
  have h2 := aGets_b hI hb
  have h3 := hI.2.2.1 b hb
  rw [E_195, ix0 hb, if_pos (by omega), s193 hR hI hb, bI_s, s192 hR hI hb, bI_s, Int.toNat_natCast, hR b (by omega), wr_s (by rw [wr_s (by omega) (by omega)]; omega) (by rw [wr_s (by omega) (by omega)]; omega), wr_s (by omega) (by omega)]
  rfl
theorem s241 (hR : TR M 54 T) (hI : TI T) (hZ : TZ T) : fnA 241 [.inr (some 53)] M = some (some (.inl (sg T 8)), M) := by
  rw [E_241]
  refine sumU (fun i s => run 3 241 4 [.inr (some 53), .inl s, .inl i] [] M) T 8 9999 (fun s => some (some (.inl s), M)) (fun i hi => hI.2.2.1 i hi) (by decide) (by decide) (fun i s hi => ?_) (fun s => ?_)
  · rw [B_241_4, if_neg (by omega), s188 hR hI, bI_s]
    by_cases hb : (ok T).testBit i = true
    · rw [bI1_t ((tb_n hi).mpr hb), if_neg (by decide), ix0 hi, if_pos (by omega), Int.toNat_natCast, hR i (by omega)]
    · rw [bI1_f (fun z => hb ((tb_n hi).mp z)), if_pos rfl, (hZ.1 i hi (by simpa using hb)).1]
  · rw [B_241_4, if_pos (by decide)]
/-- one row into another -/
theorem s186 {a b : Nat} (ha : isA a) (hb : isA b) (hab : a ≠ b) (M : aM) : ∃ M', fnA 186 [.inr (some a), .inr (some b)] M = some (none, M') ∧ (∀ j, j < 141 → M' b j = M a j) ∧ ∀ q, q ≠ b → M' q = M q := by
  rw [E_186 _ _ _ ha hb]
  obtain ⟨M', h1, h2⟩ := upR (fun i M' => run 0 186 2 [.inr (some a), .inr (some b), .inl i] [] M') (fun i M' => (∀ j, j < i → M' b j = M a j) ∧ ∀ q, q ≠ b → M' q = M q) 141 (by decide) (fun i M' hi hI => by
    refine ⟨upM M' b i (M' a i), ?_, fun j hj => ?_, fun q hq => ?_⟩
    · rw [B_186_2 _ _ _ _ ha hb, if_neg (by omega), if_pos (by omega), if_pos (by omega), Int.toNat_natCast]
    · rw [up_r]
      by_cases h : j = i
      · subst h; rw [if_pos ⟨rfl, rfl⟩, hI.2 a hab]
      · rw [if_neg (fun z => h z.2)]; exact hI.1 j (by omega)
    · rw [up_ne hq]; exact hI.2 q hq) 141 0 M (by omega) ⟨fun j hj => by omega, fun q _ => rfl⟩
  refine ⟨M', ?_, h1.1, h1.2⟩
  rw [show (0 : Int) = ((0 : Nat) : Int) from rfl]
  refine Eq.trans h2 ?_
  rw [B_186_2 _ _ _ _ ha hb, if_pos (by decide)]
end RFN
