/-! Plain facts on numbers for all that follows. -/
theorem wr_s {z : Int} (h1 : -2147483648 ≤ z) (h2 : z < 2147483648) : wr z = z := w_id ⟨h1, h2⟩
theorem oI (n : Nat) : Int32.ofInt (n : Int) = nI n := Int32.ofInt_eq_ofNat
theorem s32 : ∀ n, n < 32 → ((nI n &&& 31).toBitVec.smod 32).toNat = n := by decide +kernel
theorem n_and (a b : Nat) : nI a &&& nI b = nI (a &&& b) := by
  apply Int32.toBitVec_inj.1
  show BitVec.ofNat 32 a &&& BitVec.ofNat 32 b = BitVec.ofNat 32 (a &&& b)
  apply BitVec.eq_of_getLsbD_eq
  intro i hi
  simp [hi]
theorem n_or (a b : Nat) : nI a ||| nI b = nI (a ||| b) := by
  apply Int32.toBitVec_inj.1
  show BitVec.ofNat 32 a ||| BitVec.ofNat 32 b = BitVec.ofNat 32 (a ||| b)
  apply BitVec.eq_of_getLsbD_eq
  intro i hi
  simp [hi]
theorem n_xor (a b : Nat) : nI a ^^^ nI b = nI (a ^^^ b) := by
  apply Int32.toBitVec_inj.1
  show BitVec.ofNat 32 a ^^^ BitVec.ofNat 32 b = BitVec.ofNat 32 (a ^^^ b)
  apply BitVec.eq_of_getLsbD_eq
  intro i hi
  simp [hi]
theorem iAnd_n {a b : Nat} (ha : a < 2147483648) : iAnd (a : Int) (b : Int) = ((a &&& b : Nat) : Int) := by
  unfold iAnd
  rw [oI, oI, n_and, nI_toInt (Nat.lt_of_le_of_lt Nat.and_le_left ha)]
theorem iOr_n {a b : Nat} (h : a ||| b < 2147483648) : iOr (a : Int) (b : Int) = ((a ||| b : Nat) : Int) := by
  unfold iOr
  rw [oI, oI, n_or, nI_toInt h]
theorem iShr_n {a k : Nat} (ha : a < 2147483648) (hk : k < 32) : iShr (a : Int) (k : Int) = ((a / 2 ^ k : Nat) : Int) := by
  unfold iShr
  rw [oI, oI, pk_shrN ha _ k (s32 k hk), nI_toInt (Nat.lt_of_le_of_lt (Nat.div_le_self _ _) ha)]
theorem iShl_n {a k : Nat} (h : a * 2 ^ k < 2147483648) (hk : k < 32) : iShl (a : Int) (k : Int) = ((a * 2 ^ k : Nat) : Int) := by
  unfold iShl
  rw [oI, oI, pk_shlN _ k (s32 k hk) (by omega), nI_toInt h]
theorem iShl_1 {k : Nat} (hk : k < 31) : iShl 1 (k : Int) = ((2 ^ k : Nat) : Int) := by
  have h2 : 2 ^ k < 2 ^ 31 := Nat.pow_lt_pow_right (by decide) hk
  have := iShl_n (a := 1) (k := k) (by omega) (by omega)
  rw [Nat.one_mul] at this
  exact this
theorem iBit {a k : Nat} (ha : a < 2147483648) (hk : k < 32) : iAnd (iShr (a : Int) (k : Int)) 1 = if a.testBit k then 1 else 0 := by
  rw [iShr_n ha hk]
  have := iAnd_n (a := a / 2 ^ k) (b := 1) (Nat.lt_of_le_of_lt (Nat.div_le_self _ _) ha)
  rw [show ((1 : Nat) : Int) = 1 from rfl] at this
  rw [this, Nat.and_one_is_mod, Nat.testBit_eq_decide_div_mod_eq]
  have h2 : a / 2 ^ k % 2 < 2 := Nat.mod_lt _ (by decide)
  by_cases h : a / 2 ^ k % 2 = 1
  · rw [h]; simp
  · rw [show a / 2 ^ k % 2 = 0 by omega]; simp
theorem and_pow (a k : Nat) : a &&& 2 ^ k = if a.testBit k then 2 ^ k else 0 := by
  apply Nat.eq_of_testBit_eq
  intro i
  rw [Nat.testBit_and, Nat.testBit_two_pow]
  by_cases h : k = i
  · subst h
    by_cases hb : a.testBit k <;> simp [hb]
  · by_cases hb : a.testBit k <;> simp [hb, h, Nat.testBit_two_pow]
theorem iMask {a k : Nat} (ha : a < 2147483648) (hk : k < 31) : iAnd (a : Int) (iShl 1 (k : Int)) = if a.testBit k then ((2 ^ k : Nat) : Int) else 0 := by
  rw [iShl_1 hk, iAnd_n ha, and_pow]
  split <;> rfl
theorem iMask0 {a k : Nat} (ha : a < 2147483648) (hk : k < 31) : iAnd (a : Int) (iShl 1 (k : Int)) = 0 ↔ a.testBit k = false := by
  rw [iMask ha hk]
  have h2 : 0 < 2 ^ k := Nat.two_pow_pos k
  by_cases hb : a.testBit k
  · rw [if_pos hb, hb]
    constructor
    · intro h; have : (2 ^ k : Nat) = 0 := by exact_mod_cast h
      omega
    · intro h; cases h
  · simp [hb]
def andN (a b : Nat) : Nat := a &&& (b ^^^ 4294967295)
theorem iAndN {a b : Nat} (ha : a < 2147483648) : iAnd (a : Int) (iXor (b : Int) (-1)) = (andN a b : Int) := by
  unfold iAnd iXor andN
  rw [i_bit, oI, oI, show Int32.ofInt (-1) = nI 4294967295 by decide +kernel, n_xor, n_and, nI_toInt (Nat.lt_of_le_of_lt Nat.and_le_left ha)]
theorem andN_bit {a b i : Nat} (hi : i < 32) : (andN a b).testBit i = (a.testBit i && !b.testBit i) := by
  unfold andN
  rw [Nat.testBit_and, Nat.testBit_xor, show (4294967295 : Nat) = 2 ^ 32 - 1 by decide, Nat.testBit_two_pow_sub_one]
  simp [hi]
theorem andN_le {a b : Nat} : andN a b ≤ a := Nat.and_le_left
theorem bit_lt {a n i : Nat} (ha : a < 2 ^ n) (hi : n ≤ i) : a.testBit i = false := Nat.testBit_lt_two_pow (Nat.lt_of_lt_of_le ha (Nat.pow_le_pow_right (by decide) hi))
theorem eq_of_bits {a b n : Nat} (ha : a < 2 ^ n) (hb : b < 2 ^ n) (h : ∀ i, i < n → a.testBit i = b.testBit i) : a = b := by
  apply Nat.eq_of_testBit_eq
  intro i
  by_cases hi : i < n
  · exact h i hi
  · rw [bit_lt ha (by omega), bit_lt hb (by omega)]
theorem or_pow_bit {a k i : Nat} : (a ||| 2 ^ k).testBit i = (a.testBit i || decide (k = i)) := by rw [Nat.testBit_or, Nat.testBit_two_pow]
theorem or_pow_lt {a k n : Nat} (ha : a < 2 ^ n) (hk : k < n) : a ||| 2 ^ k < 2 ^ n := Nat.or_lt_two_pow ha (Nat.pow_lt_pow_right (by decide) hk)
/-- how many of the first n bits -/
def pct (s : Nat) : Nat → Nat
  | 0 => 0
  | n + 1 => pct s n + if s.testBit n then 1 else 0
theorem pct_le (s : Nat) : ∀ n, pct s n ≤ n
  | 0 => Nat.le_refl 0
  | n + 1 => by have := pct_le s n; unfold pct; split <;> omega
/-- sums -/
def sg (f : Nat → Int) : Nat → Int
  | 0 => 0
  | n + 1 => sg f n + f n
theorem sg_s (f : Nat → Int) (n : Nat) : sg f (n + 1) = sg f n + f n := rfl
theorem sg_b {f : Nat → Int} {c : Int} : ∀ {n : Nat}, (∀ i, i < n → 0 ≤ f i ∧ f i ≤ c) → 0 ≤ sg f n ∧ sg f n ≤ c * n
  | 0, _ => by simp [sg]
  | n + 1, h => by
    have h1 := sg_b (n := n) (fun i hi => h i (by omega))
    have h2 := h n (by omega)
    have e : c * ((n + 1 : Nat) : Int) = c * (n : Int) + c := by rw [Int.natCast_succ, Int.mul_add, Int.mul_one]
    rw [sg_s, e]
    omega
theorem sg_c {f g : Nat → Int} : ∀ {n : Nat}, (∀ i, i < n → f i = g i) → sg f n = sg g n
  | 0, _ => rfl
  | n + 1, h => by rw [sg_s, sg_s, sg_c (n := n) (fun i hi => h i (by omega)), h n (by omega)]
theorem up_s {M : aM} {q j : Nat} {x : Int} : upM M q j x q j = x := by simp [upM]
theorem up_j {M : aM} {q j i : Nat} {x : Int} (h : i ≠ j) : upM M q j x q i = M q i := by simp [upM, h]
theorem up_o {M : aM} {q j a i : Nat} {x : Int} (h : a ≠ q) : upM M q j x a i = M a i := by simp [upM, h]
theorem up_r {M : aM} {q j : Nat} {x : Int} {a i : Nat} : upM M q j x a i = if a = q ∧ i = j then x else M a i := by
  unfold upM
  by_cases h : a = q
  · subst h
    by_cases hi : i = j <;> simp [hi]
  · simp [h]
theorem cp_o {M : aM} {a b sp dp n q : Nat} (h : q ≠ b) : cpM M a b sp dp n q = M q := by simp [cpM, h]
theorem cp_i {M : aM} {a b n i : Nat} : cpM M a b 0 0 n b i = if i < n then M a i else M b i := by simp [cpM]
/-- all cells but some keep what they hold -/
def Fr (P : Nat → Bool) (M M' : aM) : Prop := ∀ q, P q = false → M' q = M q
theorem Fr.rf {P : Nat → Bool} {M : aM} : Fr P M M := fun _ _ => rfl
theorem Fr.tr {P : Nat → Bool} {M M1 M2 : aM} (h1 : Fr P M M1) (h2 : Fr P M1 M2) : Fr P M M2 := fun q h => (h2 q h).trans (h1 q h)
theorem Fr.up {P : Nat → Bool} {M M' : aM} {q j : Nat} {x : Int} (h : Fr P M M') (hq : P q = true) : Fr P M (upM M' q j x) := fun a ha => by
  have : a ≠ q := fun e => by rw [e, hq] at ha; cases ha
  rw [up_ne this]
  exact h a ha
theorem Fr.cp {P : Nat → Bool} {M M' : aM} {a b sp dp n : Nat} (h : Fr P M M') (hq : P b = true) : Fr P M (cpM M' a b sp dp n) := fun q hq2 => by
  have : q ≠ b := fun e => by rw [e, hq] at hq2; cases hq2
  rw [cp_o this]
  exact h q hq2
theorem Fr.le {P P' : Nat → Bool} {M M' : aM} (h : Fr P M M') (hp : ∀ q, P q = true → P' q = true) : Fr P' M M' := fun q hq => h q (by
  cases e : P q with
  | false => rfl
  | true => rw [hp q e] at hq; cases hq)
