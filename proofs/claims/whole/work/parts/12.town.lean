/-! A town as one row of 141 numbers (cash 0, debts 8, shares 72, told 136, shut 137, month 138, fallen 139, x 140); what the two programs read of it. -/
def TI (T : Nat → Int) : Prop := (0 ≤ T 136 ∧ T 136 < 256) ∧ (0 ≤ T 137 ∧ T 137 < 256) ∧ (∀ b, b < 8 → 0 ≤ T b ∧ T b ≤ 9999) ∧ (∀ j, j < 64 → 0 ≤ T (8 + j) ∧ T (8 + j) ≤ 999) ∧ (∀ j, j < 64 → 0 ≤ T (72 + j)) ∧ (∀ b, b < 8 → sg (fun e => T (72 + (8 * e + b))) 8 ≤ 100) ∧ (0 ≤ T 138 ∧ T 138 ≤ 9999) ∧ (0 ≤ T 140 ∧ T 140 ≤ 65535)
def tk (T : Nat → Int) : Nat := (T 136).toNat
def sk (T : Nat → Int) : Nat := (T 137).toNat
def ok (T : Nat → Int) : Nat := andN (tk T) (sk T)
/-- the closed ones have nothing; nobody owes or has a share of itself -/
def TZ (T : Nat → Int) : Prop := (∀ b, b < 8 → (ok T).testBit b = false → T b = 0 ∧ ∀ e, e < 8 → T (8 + (8 * b + e)) = 0 ∧ T (8 + (8 * e + b)) = 0 ∧ T (72 + (8 * b + e)) = 0 ∧ T (72 + (8 * e + b)) = 0) ∧ ∀ b, b < 8 → T (8 + (8 * b + b)) = 0 ∧ T (72 + (8 * b + b)) = 0
def TC (M : aM) (k : Nat) (T : Nat → Int) : Prop := (∀ j, j < 8 → M (k + 1) j = T j) ∧ (∀ j, j < 64 → M (k + 2) j = T (8 + j)) ∧ (∀ j, j < 64 → M (k + 3) j = T (72 + j)) ∧ M k 3 = T 136 ∧ M k 4 = (ok T : Int) ∧ M k 5 = T 138 ∧ M k 6 = T 139 ∧ M k 7 = T 140
def TR (M : aM) (c : Nat) (T : Nat → Int) : Prop := ∀ j, j < 141 → M c j = T j
theorem TC.mv {M M' : aM} {k : Nat} {T : Nat → Int} (h : TC M k T) (h0 : M' k = M k) (h1 : M' (k + 1) = M (k + 1)) (h2 : M' (k + 2) = M (k + 2)) (h3 : M' (k + 3) = M (k + 3)) : TC M' k T := by
  unfold TC at *
  rw [h0, h1, h2, h3]
  exact h
theorem TR.mv {M M' : aM} {c : Nat} {T : Nat → Int} (h : TR M c T) (h0 : M' c = M c) : TR M' c T := by
  unfold TR at *
  rw [h0]
  exact h
theorem tk_i {T : Nat → Int} (h : TI T) : T 136 = (tk T : Int) ∧ tk T < 256 := by have := h.1; unfold tk; omega
theorem sk_i {T : Nat → Int} (h : TI T) : T 137 = (sk T : Int) ∧ sk T < 256 := by have := h.2.1; unfold sk; omega
theorem ok_lt {T : Nat → Int} (h : TI T) : ok T < 256 := Nat.lt_of_le_of_lt andN_le (tk_i h).2
theorem ok_bit {T : Nat → Int} {b : Nat} (hb : b < 8) : (ok T).testBit b = ((tk T).testBit b && !(sk T).testBit b) := andN_bit (by omega)
/-- a bit of a mask, asked by an int -/
def tb (m : Nat) (x : Int) : Prop := 0 ≤ x ∧ x < 8 ∧ m.testBit x.toNat = true
noncomputable def bI1 (p : Prop) : Int := @ite _ p (Classical.propDecidable p) 1 0
theorem bI1_t {p : Prop} (h : p) : bI1 p = 1 := by unfold bI1; exact @if_pos _ (Classical.propDecidable p) h _ _ _
theorem bI1_f {p : Prop} (h : ¬ p) : bI1 p = 0 := by unfold bI1; exact @if_neg _ (Classical.propDecidable p) h _ _ _
theorem bI1_c {p q : Prop} (h : p ↔ q) : bI1 p = bI1 q := by rw [show p = q from propext h]
theorem bI1_0 {p : Prop} : bI1 p = 0 ↔ ¬ p := by
  by_cases h : p
  · rw [bI1_t h]; simp [h]
  · rw [bI1_f h]; simp [h]
theorem bI1_01 {p : Prop} : bI1 p = 0 ∨ bI1 p = 1 := by
  by_cases h : p
  · exact Or.inr (bI1_t h)
  · exact Or.inl (bI1_f h)
/-- loops that count up -/
theorem upU {σ : Type} (G : Int → σ → aX) (I : Nat → σ → Prop) (f : Nat → σ → σ) (N : Nat) (hN : N < 2147483648) (hs : ∀ i s, i < N → I i s → G (i : Int) s = G (wr ((i : Int) + 1)) (f i s) ∧ I (i + 1) (f i s)) : ∀ n i s, i + n = N → I i s → ∃ s', I N s' ∧ G (i : Int) s = G (N : Int) s'
  | 0, i, s, h, hi => by
    have : i = N := by omega
    subst this
    exact ⟨s, hi, rfl⟩
  | n + 1, i, s, h, hi => by
    obtain ⟨h1, h2⟩ := hs i s (by omega) hi
    obtain ⟨s', h3, h4⟩ := upU G I f N hN hs n (i + 1) (f i s) (by omega) h2
    refine ⟨s', h3, ?_⟩
    rw [h1, wr_s (by omega) (by omega), ← h4]
    rfl
/-- a loop with an invariant, its steps by a relation -/
theorem upR {σ : Type} (G : Int → σ → aX) (I : Nat → σ → Prop) (N : Nat) (hN : N < 2147483648) (hs : ∀ i s, i < N → I i s → ∃ s', G (i : Int) s = G (wr ((i : Int) + 1)) s' ∧ I (i + 1) s') : ∀ n i s, i + n = N → I i s → ∃ s', I N s' ∧ G (i : Int) s = G (N : Int) s'
  | 0, i, s, h, hi => by
    have : i = N := by omega
    subst this
    exact ⟨s, hi, rfl⟩
  | n + 1, i, s, h, hi => by
    obtain ⟨s1, h1, h2⟩ := hs i s (by omega) hi
    obtain ⟨s', h3, h4⟩ := upR G I N hN hs n (i + 1) s1 (by omega) h2
    refine ⟨s', h3, ?_⟩
    rw [h1, wr_s (by omega) (by omega), ← h4]
    rfl
theorem sumU (G : Int → Int → aX) (g : Nat → Int) (N : Nat) (c : Int) (fin : Int → aX) (hb : ∀ i, i < N → 0 ≤ g i ∧ g i ≤ c) (hc : c * N < 2147483648) (hN : N < 2147483648) (hs : ∀ i s, i < N → G (i : Int) s = G (wr ((i : Int) + 1)) (wr (s + g i))) (he : ∀ s, G (N : Int) s = fin s) : G 0 0 = fin (sg g N) := by
  have key : ∀ n i, i + n = N → G (i : Int) (sg g i) = fin (sg g N) := by
    intro n
    induction n with
    | zero => intro i h; have : i = N := by omega
              subst this; exact he _
    | succ n ih =>
      intro i h
      have h1 := sg_b (f := g) (c := c) (n := i + 1) (fun j hj => hb j (by omega))
      have h2 : c * ((i + 1 : Nat) : Int) ≤ c * (N : Int) := Int.mul_le_mul_of_nonneg_left (by omega) (by have := hb i (by omega); omega)
      rw [hs i _ (by omega), wr_s (by omega) (by omega), wr_s (by rw [← sg_s]; omega) (by rw [← sg_s]; omega), ← sg_s]
      exact ih (i + 1) (by omega)
  exact key N 0 (by omega)
theorem ix8 {a b : Nat} (ha : a < 8) (hb : b < 8) : wr (wr ((a : Int) * 8) + (b : Int)) = ((8 * a + b : Nat) : Int) := by unfold wr; omega
theorem ixD {a b : Nat} (ha : a < 8) (hb : b < 8) : wr (wr (8 + wr (8 * (a : Int))) + (b : Int)) = ((8 + (8 * a + b) : Nat) : Int) := by unfold wr; omega
theorem ixS {a b : Nat} (ha : a < 8) (hb : b < 8) : wr (wr (72 + wr (8 * (a : Int))) + (b : Int)) = ((72 + (8 * a + b) : Nat) : Int) := by unfold wr; omega
theorem ix0 {a : Nat} (ha : a < 8) : wr (0 + (a : Int)) = (a : Int) := by unfold wr; omega
-- sums of a town
def aOwes (T : Nat → Int) (b : Nat) : Int := sg (fun e => T (8 + (8 * b + e))) 8
def aGets (T : Nat → Int) (b : Nat) : Int := sg (fun e => T (8 + (8 * e + b))) 8
def aAll (T : Nat → Int) : Int := sg (aOwes T) 8
def aWorth (T : Nat → Int) (b : Nat) : Int := T b + aGets T b - aOwes T b
section TWN
variable {T : Nat → Int} {M : aM} {k : Nat}
theorem dI (h : TI T) {a b : Nat} (ha : a < 8) (hb : b < 8) : 0 ≤ T (8 + (8 * a + b)) ∧ T (8 + (8 * a + b)) ≤ 999 := h.2.2.2.1 _ (by omega)
theorem aOwes_b (h : TI T) {b : Nat} (hb : b < 8) : 0 ≤ aOwes T b ∧ aOwes T b ≤ 7992 := by
  have := sg_b (f := fun e => T (8 + (8 * b + e))) (c := 999) (n := 8) (fun i hi => dI h hb hi)
  unfold aOwes; omega
theorem aGets_b (h : TI T) {b : Nat} (hb : b < 8) : 0 ≤ aGets T b ∧ aGets T b ≤ 7992 := by
  have := sg_b (f := fun e => T (8 + (8 * e + b))) (c := 999) (n := 8) (fun i hi => dI h hi hb)
  unfold aGets; omega
theorem aAll_b (h : TI T) : 0 ≤ aAll T ∧ aAll T ≤ 63936 := by
  have := sg_b (f := aOwes T) (c := 7992) (n := 8) (fun i hi => aOwes_b h hi)
  unfold aAll; omega
theorem s177 (x : Int) (M : aM) : fnA 177 [.inl x] M = some (some (.inl (bI1 (0 ≤ x ∧ x < 8))), M) := by
  rw [E_177]
  by_cases h1 : x < 0
  · rw [if_pos h1, bI1_f (by omega)]
  · rw [if_neg h1]
    by_cases h2 : 8 ≤ x
    · rw [if_pos h2, bI1_f (by omega)]
    · rw [if_neg h2, bI1_t (by omega)]
theorem s177n {a : Nat} (ha : a < 8) (M : aM) : fnA 177 [.inl (a : Int)] M = some (some (.inl 1), M) := by rw [s177, bI1_t (by omega)]
theorem tb_n {m a : Nat} (ha : a < 8) : tb m (a : Int) ↔ m.testBit a = true := by unfold tb; simp; omega
theorem s109 (hk : isT k) (hC : TC M k T) (hI : TI T) (x : Int) : fnA 109 [.inr (some k), .inl x] M = some (some (.inl (bI1 (tb (tk T) x))), M) := by
  rw [E_109 _ _ _ hk, s177, bI_s]
  by_cases h : 0 ≤ x ∧ x < 8
  · rw [bI1_t h, if_neg (by decide), hC.2.2.2.1, (tk_i hI).1]
    obtain ⟨a, rfl⟩ : ∃ a : Nat, x = (a : Int) := ⟨x.toNat, by omega⟩
    have ha : a < 8 := by omega
    by_cases hb : (tk T).testBit a = true
    · rw [if_neg (fun z => by rw [iMask0 (by have := (tk_i hI).2; omega) (by omega)] at z; rw [hb] at z; cases z), bI1_t ((tb_n ha).mpr hb)]
    · rw [if_pos ((iMask0 (by have := (tk_i hI).2; omega) (by omega)).mpr (by simpa using hb)), bI1_f (fun z => hb ((tb_n ha).mp z))]
  · rw [bI1_f h, if_pos rfl, bI1_f (fun z => h ⟨z.1, z.2.1⟩)]
theorem s110 (hk : isT k) (hC : TC M k T) (hI : TI T) (x : Int) : fnA 110 [.inr (some k), .inl x] M = some (some (.inl (bI1 (tb (ok T) x))), M) := by
  rw [E_110 _ _ _ hk, s177, bI_s]
  by_cases h : 0 ≤ x ∧ x < 8
  · rw [bI1_t h, if_neg (by decide), hC.2.2.2.2.1]
    obtain ⟨a, rfl⟩ : ∃ a : Nat, x = (a : Int) := ⟨x.toNat, by omega⟩
    have ha : a < 8 := by omega
    have hl := ok_lt hI
    by_cases hb : (ok T).testBit a = true
    · rw [if_neg (fun z => by rw [iMask0 (by omega) (by omega)] at z; rw [hb] at z; cases z), bI1_t ((tb_n ha).mpr hb)]
    · rw [if_pos ((iMask0 (by omega) (by omega)).mpr (by simpa using hb)), bI1_f (fun z => hb ((tb_n ha).mp z))]
  · rw [bI1_f h, if_pos rfl, bI1_f (fun z => h ⟨z.1, z.2.1⟩)]
theorem s111 (hk : isT k) (hC : TC M k T) (hI : TI T) (x y : Int) : fnA 111 [.inr (some k), .inl x, .inl y] M = some (some (.inl (bI1 (x ≠ y ∧ tb (tk T) x ∧ tb (tk T) y))), M) := by
  rw [E_111 _ _ _ _ hk]
  by_cases h : x = y
  · rw [if_pos h, bI1_f (fun z => z.1 h)]
  · rw [if_neg h, s109 hk hC hI, bI_s]
    by_cases h1 : tb (tk T) x
    · rw [bI1_t h1, if_neg (by decide), s109 hk hC hI, bI_s]
      by_cases h2 : tb (tk T) y
      · rw [bI1_t h2, if_neg (by decide), bI1_t ⟨h, h1, h2⟩]
      · rw [bI1_f h2, if_pos rfl, bI1_f (fun z => h2 z.2.2)]
    · rw [bI1_f h1, if_pos rfl, bI1_f (fun z => h1 z.2.1)]
theorem s112 (hk : isT k) (hC : TC M k T) (hI : TI T) (x y : Int) : fnA 112 [.inr (some k), .inl x, .inl y] M = some (some (.inl (bI1 (x ≠ y ∧ tb (ok T) x ∧ tb (ok T) y))), M) := by
  rw [E_112 _ _ _ _ hk]
  by_cases h : x = y
  · rw [if_pos h, bI1_f (fun z => z.1 h)]
  · rw [if_neg h, s110 hk hC hI, bI_s]
    by_cases h1 : tb (ok T) x
    · rw [bI1_t h1, if_neg (by decide), s110 hk hC hI, bI_s]
      by_cases h2 : tb (ok T) y
      · rw [bI1_t h2, if_neg (by decide), bI1_t ⟨h, h1, h2⟩]
      · rw [bI1_f h2, if_pos rfl, bI1_f (fun z => h2 z.2.2)]
    · rw [bI1_f h1, if_pos rfl, bI1_f (fun z => h1 z.2.1)]
theorem s114 (hk : isT k) {a : Nat} (ha : a < 8) (M : aM) : fnA 114 [.inr (some k), .inl (a : Int)] M = some (some (.inl (M (k + 1) a)), M) := by
  rw [E_114 _ _ _ hk, s177n ha, bI_s, if_neg (by decide), if_pos (by omega), Int.toNat_natCast]
theorem s115 (hk : isT k) {a : Nat} (ha : a < 8) (x : Int) (M : aM) : fnA 115 [.inr (some k), .inl (a : Int), .inl x] M = some (none, upM M (k + 1) a x) := by
  rw [E_115 _ _ _ _ hk, s177n ha, bI_s, if_neg (by decide), if_pos (by omega), Int.toNat_natCast]
theorem s116 (hk : isT k) {a b : Nat} (ha : a < 8) (hb : b < 8) (M : aM) : fnA 116 [.inr (some k), .inl (a : Int), .inl (b : Int)] M = some (some (.inl (M (k + 2) (8 * a + b))), M) := by
  rw [E_116 _ _ _ _ hk, s177n ha, bI_s, if_neg (by decide), s177n hb, bI_s, if_neg (by decide), ix8 ha hb, if_pos (by omega), Int.toNat_natCast]
theorem s117 (hk : isT k) {a b : Nat} (ha : a < 8) (hb : b < 8) (x : Int) (M : aM) : fnA 117 [.inr (some k), .inl (a : Int), .inl (b : Int), .inl x] M = some (none, upM M (k + 2) (8 * a + b) x) := by
  rw [E_117 _ _ _ _ _ hk, s177n ha, bI_s, if_neg (by decide), s177n hb, bI_s, if_neg (by decide), ix8 ha hb, if_pos (by omega), Int.toNat_natCast]
theorem s118 (hk : isT k) {a b : Nat} (ha : a < 8) (hb : b < 8) (M : aM) : fnA 118 [.inr (some k), .inl (a : Int), .inl (b : Int)] M = some (some (.inl (M (k + 3) (8 * a + b))), M) := by
  rw [E_118 _ _ _ _ hk, s177n ha, bI_s, if_neg (by decide), s177n hb, bI_s, if_neg (by decide), ix8 ha hb, if_pos (by omega), Int.toNat_natCast]
theorem s119 (hk : isT k) {a b : Nat} (ha : a < 8) (hb : b < 8) (x : Int) (M : aM) : fnA 119 [.inr (some k), .inl (a : Int), .inl (b : Int), .inl x] M = some (none, upM M (k + 3) (8 * a + b) x) := by
  rw [E_119 _ _ _ _ _ hk, s177n ha, bI_s, if_neg (by decide), s177n hb, bI_s, if_neg (by decide), ix8 ha hb, if_pos (by omega), Int.toNat_natCast]
theorem s121 (hk : isT k) (hC : TC M k T) (hI : TI T) {b : Nat} (hb : b < 8) : fnA 121 [.inr (some k), .inl (b : Int)] M = some (some (.inl (aOwes T b)), M) := by
  rw [E_121 _ _ _ hk, if_neg (by omega), if_neg (by omega)]
  refine sumU (fun i s => run 0 121 14 [.inr (some k), .inl (b : Int), .inl s, .inl i] [] M) (fun e => T (8 + (8 * b + e))) 8 999 (fun s => some (some (.inl s), M)) (fun i hi => dI hI hb hi) (by decide) (by decide) (fun i s hi => ?_) (fun s => ?_)
  · skip
    rw [B_121_14 _ _ _ _ _ hk, if_neg (by omega), ix8 hb hi, if_pos (by omega), Int.toNat_natCast, hC.2.1 _ (by omega)]
  · skip
    rw [B_121_14 _ _ _ _ _ hk, if_pos (by decide)]
theorem s122 (hk : isT k) (hC : TC M k T) (hI : TI T) {b : Nat} (hb : b < 8) : fnA 122 [.inr (some k), .inl (b : Int)] M = some (some (.inl (aGets T b)), M) := by
  rw [E_122 _ _ _ hk, if_neg (by omega), if_neg (by omega)]
  refine sumU (fun i s => run 0 122 14 [.inr (some k), .inl (b : Int), .inl s, .inl i] [] M) (fun e => T (8 + (8 * e + b))) 8 999 (fun s => some (some (.inl s), M)) (fun i hi => dI hI hi hb) (by decide) (by decide) (fun i s hi => ?_) (fun s => ?_)
  · skip
    rw [B_122_14 _ _ _ _ _ hk, if_neg (by omega), ix8 hi hb, if_pos (by omega), Int.toNat_natCast, hC.2.1 _ (by omega)]
  · skip
    rw [B_122_14 _ _ _ _ _ hk, if_pos (by decide)]
theorem s123 (hk : isT k) (hC : TC M k T) (hI : TI T) {b : Nat} (hb : b < 8) : fnA 123 [.inr (some k), .inl (b : Int)] M = some (some (.inl (aWorth T b)), M) := by
  have h1 := aOwes_b hI hb
  have h2 := aGets_b hI hb
  have h3 := hI.2.2.1 b hb
  rw [E_123 _ _ _ hk, s114 hk hb, bI_s, s122 hk hC hI hb, bI_s, s121 hk hC hI hb, bI_s, hC.1 b hb, wr_s (by rw [wr_s (by omega) (by omega)]; omega) (by rw [wr_s (by omega) (by omega)]; omega), wr_s (by omega) (by omega)]
  rfl
theorem s125 (hk : isT k) (hC : TC M k T) (hI : TI T) : fnA 125 [.inr (some k)] M = some (some (.inl (aAll T)), M) := by
  rw [E_125 _ _ hk]
  refine sumU (fun i s => run 1 125 4 [.inr (some k), .inl s, .inl i] [] M) (aOwes T) 8 7992 (fun s => some (some (.inl s), M)) (fun i hi => aOwes_b hI hi) (by decide) (by decide) (fun i s hi => ?_) (fun s => ?_)
  · skip
    rw [B_125_4 _ _ _ _ hk, if_neg (by omega), s121 hk hC hI hi, bI_s]
  · skip
    rw [B_125_4 _ _ _ _ hk, if_pos (by decide)]
theorem s124 (hk : isT k) (hC : TC M k T) (hI : TI T) : fnA 124 [.inr (some k)] M = some (some (.inl (sg T 8)), M) := by
  rw [E_124 _ _ hk]
  refine sumU (fun i s => run 2 124 4 [.inr (some k), .inl s, .inl i] [] M) T 8 9999 (fun s => some (some (.inl s), M)) (fun i hi => hI.2.2.1 i hi) (by decide) (by decide) (fun i s hi => ?_) (fun s => ?_)
  · skip
    rw [B_124_4 _ _ _ _ hk, if_neg (by omega), s114 hk hi, bI_s, hC.1 i hi]
  · skip
    rw [B_124_4 _ _ _ _ hk, if_pos (by decide)]
end TWN
