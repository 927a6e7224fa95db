/-! Who controls whom: two ways to the least closed set; bankIs; feed. -/
def sub (s t : Nat) : Prop := ∀ i, s.testBit i = true → t.testBit i = true
theorem sub_rf (s : Nat) : sub s s := fun _ h => h
theorem sub.tr {s t u : Nat} (h : sub s t) (h2 : sub t u) : sub s u := fun i hi => h2 i (h i hi)
theorem sub_eq {s t : Nat} (h1 : sub s t) (h2 : sub t s) : s = t := by
  apply Nat.eq_of_testBit_eq
  intro i
  cases e : s.testBit i
  · cases e2 : t.testBit i
    · rfl
    · rw [h2 i e2] at e; cases e
  · exact (h1 i e).symm
theorem sub_or {s k : Nat} : sub s (s ||| 2 ^ k) := fun i h => by rw [or_pow_bit, h]; rfl
theorem or_sub {s t k : Nat} (h : sub s t) (hk : t.testBit k = true) : sub (s ||| 2 ^ k) t := fun i hi => by
  rw [or_pow_bit] at hi
  simp only [Bool.or_eq_true, decide_eq_true_eq] at hi
  rcases hi with hi | rfl
  · exact h i hi
  · exact hk
theorem pct_mono {s t : Nat} (h : sub s t) : ∀ n, pct s n ≤ pct t n
  | 0 => Nat.le_refl _
  | n + 1 => by
    have := pct_mono h n
    unfold pct
    by_cases e : s.testBit n = true
    · rw [if_pos e, if_pos (h n e)]; omega
    · rw [if_neg e]; omega
theorem pct_lt {s t : Nat} (h : sub s t) {k : Nat} (h1 : s.testBit k = false) (h2 : t.testBit k = true) : ∀ n, k < n → pct s n < pct t n
  | 0, hn => absurd hn (by omega)
  | n + 1, hn => by
    unfold pct
    by_cases e : n = k
    · subst e
      have := pct_mono h n
      rw [if_neg (by rw [h1]; decide), if_pos h2]; omega
    · have := pct_lt h h1 h2 n (by omega)
      by_cases e : s.testBit n = true
      · rw [if_pos e, if_pos (h n e)]; omega
      · rw [if_neg e]; omega
/-- a step that is not the last one adds a bit -/
theorem pct_up {s t : Nat} (h : sub s t) (ht : t < 256) (hn : t ≠ s) : pct s 8 < pct t 8 := by
  by_cases hx : ∃ k, k < 8 ∧ s.testBit k = false ∧ t.testBit k = true
  · obtain ⟨k, h1, h2, h3⟩ := hx
    exact pct_lt h h2 h3 8 h1
  · exfalso
    refine hn (sub_eq (fun i hi => ?_) h)
    by_cases h8 : i < 8
    · cases e : s.testBit i
      · exact absurd ⟨i, h8, e, hi⟩ hx
      · rfl
    · rw [bit_lt (n := 8) ht (by omega)] at hi; cases hi
def aShs (T : Nat → Int) (s e : Nat) : Int := sg (fun a => if s.testBit a = true then T (72 + (8 * a + e)) else 0) 8
def clsd (T : Nat → Int) (s : Nat) : Prop := ∀ e, e < 8 → 50 < aShs T s e → s.testBit e = true
theorem aShs_p {T : Nat → Int} (hT : TI T) {s e : Nat} (he : e < 8) {i : Nat} (hi : i < 8) : 0 ≤ (if s.testBit i = true then T (72 + (8 * i + e)) else 0) ∧ (if s.testBit i = true then T (72 + (8 * i + e)) else 0) ≤ T (72 + (8 * i + e)) := by
  have := hT.2.2.2.2.1 (8 * i + e) (by omega)
  split <;> omega
theorem sg_le {f g : Nat → Int} : ∀ {n : Nat}, (∀ i, i < n → f i ≤ g i) → sg f n ≤ sg g n
  | 0, _ => Int.le_refl _
  | n + 1, h => by
    have := sg_le (n := n) (fun i hi => h i (by omega))
    have := h n (by omega)
    rw [sg_s, sg_s]; omega
theorem sg_nn {f : Nat → Int} : ∀ {n : Nat}, (∀ i, i < n → 0 ≤ f i) → 0 ≤ sg f n
  | 0, _ => Int.le_refl _
  | n + 1, h => by
    have := sg_nn (n := n) (fun i hi => h i (by omega))
    have := h n (by omega)
    rw [sg_s]; omega
theorem aShs_n {T : Nat → Int} (hT : TI T) {s e : Nat} (he : e < 8) (n : Nat) (hn : n ≤ 8) : 0 ≤ sg (fun a => if s.testBit a = true then T (72 + (8 * a + e)) else 0) n ∧ sg (fun a => if s.testBit a = true then T (72 + (8 * a + e)) else 0) n ≤ 100 := by
  refine ⟨sg_nn (fun i hi => (aShs_p hT he (by omega)).1), ?_⟩
  have h1 := sg_mono (f := fun a => if s.testBit a = true then T (72 + (8 * a + e)) else 0) (fun i hi => (aShs_p hT he hi).1) (8 - n) n (by omega)
  have h2 := sg_le (f := fun a => if s.testBit a = true then T (72 + (8 * a + e)) else 0) (g := fun a => T (72 + (8 * a + e))) (n := 8) (fun i hi => (aShs_p hT he hi).2)
  have h3 := hT.2.2.2.2.2.1 e he
  omega
theorem aShs_m {T : Nat → Int} (hT : TI T) {s t e : Nat} (he : e < 8) (h : sub s t) : aShs T s e ≤ aShs T t e := by
  refine sg_le (fun i hi => ?_)
  have := hT.2.2.2.2.1 (8 * i + e) (by omega)
  by_cases e1 : s.testBit i = true
  · rw [if_pos e1, if_pos (h i e1)]; omega
  · rw [if_neg e1]; split <;> omega
/-- what both ways come to -/
def ctl (T : Nat → Int) (b s : Nat) : Prop := s < 256 ∧ sub (2 ^ b) s ∧ clsd T s ∧ ∀ C, clsd T C → sub (2 ^ b) C → sub s C
theorem ctl_1 {T : Nat → Int} {b s t : Nat} (h : ctl T b s) (h2 : ctl T b t) : s = t := sub_eq (h.2.2.2 t h2.2.2.1 h2.2.1) (h2.2.2.2 s h.2.2.1 h.2.1)
noncomputable def rnd (T : Nat → Int) (s : Nat) : Nat → Nat
  | 0 => s
  | n + 1 => if aShs T (rnd T s n) n ≤ 50 then rnd T s n else rnd T s n ||| 2 ^ n
theorem rnd_s (T : Nat → Int) (s n : Nat) : rnd T s (n + 1) = if aShs T (rnd T s n) n ≤ 50 then rnd T s n else rnd T s n ||| 2 ^ n := rfl
noncomputable def jac (T : Nat → Int) (s : Nat) : Nat → Nat
  | 0 => s
  | n + 1 => if aShs T s n ≤ 50 then jac T s n else jac T s n ||| 2 ^ n
theorem jac_s (T : Nat → Int) (s n : Nat) : jac T s (n + 1) = if aShs T s n ≤ 50 then jac T s n else jac T s n ||| 2 ^ n := rfl
section CTL
variable {T : Nat → Int}
theorem rnd_up (s n m : Nat) : sub (rnd T s n) (rnd T s (n + m)) := by
  induction m with
  | zero => exact sub_rf _
  | succ m ih =>
    rw [← Nat.add_assoc, rnd_s]
    split
    · exact ih
    · exact ih.tr sub_or
theorem jac_up (s n m : Nat) : sub (jac T s n) (jac T s (n + m)) := by
  induction m with
  | zero => exact sub_rf _
  | succ m ih =>
    rw [← Nat.add_assoc, jac_s]
    split
    · exact ih
    · exact ih.tr sub_or
theorem rnd_lt {s : Nat} (hs : s < 256) : ∀ n, n ≤ 8 → rnd T s n < 256
  | 0, _ => hs
  | n + 1, h => by
    rw [rnd_s]
    split
    · exact rnd_lt hs n (by omega)
    · exact or_pow_lt (n := 8) (rnd_lt hs n (by omega)) (by omega)
theorem jac_lt {s : Nat} (hs : s < 256) : ∀ n, n ≤ 8 → jac T s n < 256
  | 0, _ => hs
  | n + 1, h => by
    rw [jac_s]
    split
    · exact jac_lt hs n (by omega)
    · exact or_pow_lt (n := 8) (jac_lt hs n (by omega)) (by omega)
theorem rnd_in (hT : TI T) {s C : Nat} (hC : clsd T C) (h : sub s C) : ∀ n, n ≤ 8 → sub (rnd T s n) C
  | 0, _ => h
  | n + 1, hn => by
    have ih := rnd_in hT hC h n (by omega)
    rw [rnd_s]
    split
    · exact ih
    · next hx => exact or_sub ih (hC n (by omega) (by have := aShs_m hT (e := n) (by omega) ih; omega))
theorem jac_in (hT : TI T) {s C : Nat} (hC : clsd T C) (h : sub s C) : ∀ n, n ≤ 8 → sub (jac T s n) C
  | 0, _ => h
  | n + 1, hn => by
    have ih := jac_in hT hC h n (by omega)
    rw [jac_s]
    split
    · exact ih
    · next hx => exact or_sub ih (hC n (by omega) (by have := aShs_m hT (e := n) (by omega) h; omega))
theorem rnd_fix {s : Nat} (h : rnd T s 8 = s) : clsd T s := fun e he h5 => by
  have h1 : rnd T s e = s := sub_eq (by
    have := rnd_up (T := T) s e (8 - e)
    rw [show e + (8 - e) = 8 by omega, h] at this
    exact this) (by
    have := rnd_up (T := T) s 0 e
    rw [Nat.zero_add] at this
    exact this)
  have h2 : rnd T s (e + 1) = s := sub_eq (by
    have := rnd_up (T := T) s (e + 1) (8 - (e + 1))
    rw [show (e + 1) + (8 - (e + 1)) = 8 by omega, h] at this
    exact this) (by
    have := rnd_up (T := T) s 0 (e + 1)
    rw [Nat.zero_add] at this
    exact this)
  rw [rnd_s, h1, if_neg (by omega)] at h2
  have := or_pow_bit (a := s) (k := e) (i := e)
  rw [h2] at this
  simpa using this
theorem jac_fix {s : Nat} (h : jac T s 8 = s) : clsd T s := fun e he h5 => by
  have h2 : sub (jac T s (e + 1)) s := by
    have := jac_up (T := T) s (e + 1) (8 - (e + 1))
    rw [show (e + 1) + (8 - (e + 1)) = 8 by omega, h] at this
    exact this
  rw [jac_s, if_neg (by omega)] at h2
  exact h2 e (by rw [or_pow_bit]; simp)
noncomputable def rit (T : Nat → Int) (b : Nat) : Nat → Nat
  | 0 => 2 ^ b
  | n + 1 => rnd T (rit T b n) 8
theorem rit_s (b n : Nat) : rit T b (n + 1) = rnd T (rit T b n) 8 := rfl
theorem p8 {b : Nat} (hb : b < 8) : 2 ^ b < 256 := Nat.pow_lt_pow_right (n := 8) (by decide) hb
theorem rit_lt {b : Nat} (hb : b < 8) : ∀ n, rit T b n < 256
  | 0 => p8 hb
  | n + 1 => rnd_lt (rit_lt hb n) 8 (by omega)
theorem rit_w (hT : TI T) {b : Nat} : ∀ n, sub (2 ^ b) (rit T b n) ∧ ∀ C, clsd T C → sub (2 ^ b) C → sub (rit T b n) C
  | 0 => ⟨sub_rf _, fun _ _ h => h⟩
  | n + 1 => by
    obtain ⟨h1, h2⟩ := rit_w hT (b := b) n
    refine ⟨h1.tr ?_, fun C hC hb => rnd_in hT hC (h2 C hC hb) 8 (by omega)⟩
    have := rnd_up (T := T) (rit T b n) 0 8
    exact this
theorem rit_c (hT : TI T) {b : Nat} (hb : b < 8) : ∀ n, clsd T (rit T b n) ∨ n + 1 ≤ pct (rit T b n) 8
  | 0 => by
    right
    have := pct_lt (s := 0) (t := 2 ^ b) (fun i h => by rw [Nat.zero_testBit] at h; cases h) (k := b) (Nat.zero_testBit b) (by rw [Nat.testBit_two_pow]; simp) 8 hb
    unfold rit
    omega
  | n + 1 => by
    have hup : sub (rit T b n) (rit T b (n + 1)) := rnd_up (T := T) (rit T b n) 0 8
    by_cases e : rit T b (n + 1) = rit T b n
    · left
      rw [e]
      exact rnd_fix e
    · right
      have h1 := pct_up hup (rit_lt hb (n + 1)) e
      rcases rit_c hT hb n with h | h
      · exact absurd (sub_eq (rnd_in hT h (sub_rf _) 8 (by omega)) hup) e
      · omega
theorem rit_ctl (hT : TI T) {b : Nat} (hb : b < 8) : ctl T b (rit T b 8) := by
  obtain ⟨h1, h2⟩ := rit_w hT (b := b) 8
  refine ⟨rit_lt hb 8, h1, ?_, h2⟩
  rcases rit_c hT hb 8 with h | h
  · exact h
  · have := pct_le (rit T b 8) 8
    omega
theorem s128 {k : Nat} {M : aM} (hk : isT k) (hC : TC M k T) (hT : TI T) {s e : Nat} (hs : s < 256) (he : e < 8) : fnA 128 [.inr (some k), .inl (s : Int), .inl (e : Int)] M = some (some (.inl (aShs T s e)), M) := by
  rw [E_128 _ _ _ _ hk]
  have := sumV (fun i x => run 2 128 5 [.inr (some k), .inl (s : Int), .inl (e : Int), .inl x, .inl i] [] M) (fun a => if s.testBit a = true then T (72 + (8 * a + e)) else 0) 8 0 (some (some (.inl (aShs T s e)), M)) (by decide) (fun i hi => by
    have h1 := aShs_n hT (s := s) he i (by omega)
    have h2 := aShs_n hT (s := s) he (i + 1) (by omega)
    rw [B_128_5 _ _ _ _ _ _ hk, if_neg (by omega)]
    by_cases hb : s.testBit i = true
    · rw [if_neg (fun z => by rw [iMask0 (by omega) (by omega)] at z; rw [hb] at z; cases z), s118 hk hi he, bI_s, hC.2.2.1 _ (by omega)]
      rw [sg_s, if_pos hb] at h2
      rw [sg_s, if_pos hb, wr_s (z := _ + T _) (by omega) (by omega), Int.add_assoc]
    · rw [if_pos ((iMask0 (by omega) (by omega)).mpr (by simpa using hb)), sg_s, if_neg hb, Int.add_zero]) (by
    rw [B_128_5 _ _ _ _ _ _ hk, if_pos (by decide), Int.zero_add]
    rfl) 8 0 (by omega)
  exact this
theorem s127 {k : Nat} {M : aM} (hk : isT k) (hC : TC M k T) (hT : TI T) {b : Nat} (hb : b < 8) : fnA 127 [.inr (some k), .inl (b : Int)] M = some (some (.inl (andN (rit T b 8) (2 ^ b) : Int)), M) := by
  rw [E_127 _ _ _ hk, iShl_1 (by omega)]
  obtain ⟨s', hs, he⟩ := upR (fun i (s : Nat × aV) => run 3 127 6 [.inr (some k), .inl (b : Int), .inl (s.1 : Int), .inl i, s.2] [] M) (fun i s => s.1 = rit T b i) 8 (by decide) (fun i s hi hs => by
    obtain ⟨s, v⟩ := s
    dsimp only at hs ⊢
    subst hs
    have hl := rit_lt (T := T) hb i
    obtain ⟨t, ht, he⟩ := upR (fun j (t : Nat) => run 3 127 15 [.inr (some k), .inl (b : Int), .inl (t : Int), .inl (i : Int), .inl j] [] M) (fun j t => t = rnd T (rit T b i) j) 8 (by decide) (fun j t hj ht => by
      subst ht
      have h1 := rnd_lt (T := T) hl j (by omega)
      have h2 := rnd_lt (T := T) hl (j + 1) (by omega)
      have h3 := aShs_n hT (s := rnd T (rit T b i) j) hj 8 (by omega)
      refine ⟨_, ?_, rfl⟩
      rw [B_127_15 _ _ _ _ _ _ hk, if_neg (by omega), s128 hk hC hT h1 hj, bI_s, wr_s (z := 2 * _) (by unfold aShs; omega) (by unfold aShs; omega)]
      rw [rnd_s] at h2
      rw [rnd_s]
      by_cases e : aShs T (rnd T (rit T b i) j) j ≤ 50
      · rw [if_pos e, if_pos (by omega)]
      · rw [if_neg e] at h2
        rw [if_neg e, if_neg (by omega), iShl_1 (by omega), iOr_n (by omega)]) 8 0 (rit T b i) (by omega) rfl
    refine ⟨(t, .inl 8), ?_, ht⟩
    rw [B_127_6 _ _ _ _ _ _ hk, if_neg (by omega)]
    refine Eq.trans he ?_
    rw [B_127_15 _ _ _ _ _ _ hk, if_pos (by decide)]
    rfl) 8 0 (2 ^ b, .inr none) (by omega) rfl
  refine Eq.trans he ?_
  obtain ⟨s, v⟩ := s'
  dsimp only at hs ⊢
  subst hs
  rw [B_127_6 _ _ _ _ _ _ hk, if_pos (by decide), iShl_1 (by omega), iAndN (by have := rit_lt (T := T) hb 8; omega)]
theorem s243i {M : aM} (hR : TR M 54 T) (hT : TI T) {b s t e : Nat} (hs : s < 256) (he : e < 8) (v5 v6 : aV) : run 1 243 16 [.inr (some 53), .inl (b : Int), .inl (t : Int), .inl (s : Int), .inl (e : Int), v5, v6] [] M = run 1 243 29 [.inr (some 53), .inl (b : Int), .inl (t : Int), .inl (s : Int), .inl (e : Int), .inl (aShs T s e), .inl 8] [] M := by
  rw [B_243_16, if_neg (by omega)]
  have := sumV (fun i x => run 1 243 29 [.inr (some 53), .inl (b : Int), .inl (t : Int), .inl (s : Int), .inl (e : Int), .inl x, .inl i] [] M) (fun a => if s.testBit a = true then T (72 + (8 * a + e)) else 0) 8 0 (run 1 243 29 [.inr (some 53), .inl (b : Int), .inl (t : Int), .inl (s : Int), .inl (e : Int), .inl (aShs T s e), .inl 8] [] M) (by decide) (fun i hi => by
    have h1 := aShs_n hT (s := s) he i (by omega)
    have h2 := aShs_n hT (s := s) he (i + 1) (by omega)
    rw [B_243_29, if_neg (by omega), s184 (by omega) (by omega), bI_s]
    by_cases hb : s.testBit i = true
    · rw [bI1_t hb, if_neg (by decide), s191 hi he, bI_s, if_pos (by omega), Int.toNat_natCast, hR _ (by omega)]
      rw [sg_s, if_pos hb] at h2
      rw [sg_s, if_pos hb, wr_s (z := _ + T _) (by omega) (by omega), Int.add_assoc]
    · rw [bI1_f hb, if_pos rfl, sg_s, if_neg hb, Int.add_zero, Int.add_zero, wr_s (z := 0 + _) (by omega) (by omega)]) (by
    rw [Int.zero_add]
    rfl) 8 0 (by omega)
  exact this
theorem s243j {M : aM} (hR : TR M 54 T) (hT : TI T) {b s : Nat} (hs : s < 256) (v5 v6 : aV) : ∃ w4 w5 w6, run 1 243 16 [.inr (some 53), .inl (b : Int), .inl (s : Int), .inl (s : Int), .inl 0, v5, v6] [] M = run 1 243 6 [.inr (some 53), .inl (b : Int), .inl (jac T s 8 : Int), .inl (s : Int), w4, w5, w6] [] M := by
  obtain ⟨t, ht, he⟩ := upR (fun j (t : Nat × aV × aV) => run 1 243 16 [.inr (some 53), .inl (b : Int), .inl (t.1 : Int), .inl (s : Int), .inl j, t.2.1, t.2.2] [] M) (fun j t => t.1 = jac T s j) 8 (by decide) (fun j t hj ht => by
    obtain ⟨t, w5, w6⟩ := t
    dsimp only at ht ⊢
    subst ht
    have h1 := jac_lt (T := T) hs j (by omega)
    have h2 := jac_lt (T := T) hs (j + 1) (by omega)
    refine ⟨(jac T s (j + 1), .inl (aShs T s j), .inl 8), ?_, rfl⟩
    rw [s243i hR hT hs hj, B_243_29, if_pos (by decide)]
    rw [jac_s] at h2
    rw [jac_s]
    by_cases e : aShs T s j ≤ 50
    · rw [if_pos e, if_pos e]
    · rw [if_neg e] at h2
      rw [if_neg e, if_neg e, iShl_1 (by omega), iOr_n (by omega)]) 8 0 (s, v5, v6) (by omega) rfl
  obtain ⟨t, w5, w6⟩ := t
  dsimp only at ht
  subst ht
  refine ⟨.inl 8, w5, w6, Eq.trans he ?_⟩
  dsimp only
  rw [B_243_16, if_pos (by decide)]
  rfl
theorem s243k {M : aM} (hR : TR M 54 T) (hT : TI T) {b : Nat} (hb : b < 8) : ∀ k s v4 v5 v6, 8 ≤ pct s 8 + k → s < 256 → sub (2 ^ b) s → (∀ C, clsd T C → sub (2 ^ b) C → sub s C) → ∃ s', ctl T b s' ∧ run 1 243 6 [.inr (some 53), .inl (b : Int), .inl (jac T s 8 : Int), .inl (s : Int), v4, v5, v6] [] M = some (some (.inl (andN s' (2 ^ b) : Int)), M) := by
  intro k
  induction k with
  | zero =>
    intro s v4 v5 v6 hk hs h1 h2
    have hup : sub s (jac T s 8) := jac_up (T := T) s 0 8
    have e : jac T s 8 = s := by
      refine Classical.byContradiction fun e => ?_
      have := pct_up hup (jac_lt hs 8 (by omega)) e
      have := pct_le (jac T s 8) 8
      omega
    refine ⟨s, ⟨hs, h1, jac_fix e, h2⟩, ?_⟩
    rw [B_243_6, e, if_pos rfl, iShl_1 (by omega), iAndN (by omega)]
  | succ k ih =>
    intro s v4 v5 v6 hk hs h1 h2
    have hup : sub s (jac T s 8) := jac_up (T := T) s 0 8
    have hlt := jac_lt (T := T) hs 8 (by omega)
    by_cases e : jac T s 8 = s
    · refine ⟨s, ⟨hs, h1, jac_fix e, h2⟩, ?_⟩
      rw [B_243_6, e, if_pos rfl, iShl_1 (by omega), iAndN (by omega)]
    · have hp := pct_up hup hlt e
      obtain ⟨w4, w5, w6, hw⟩ := s243j hR hT (b := b) hlt v5 v6
      obtain ⟨s', g1, g2⟩ := ih (jac T s 8) w4 w5 w6 (by omega) hlt (h1.tr hup) (fun C hC hb => jac_in hT hC (h2 C hC hb) 8 (by omega))
      refine ⟨s', g1, ?_⟩
      rw [B_243_6, if_neg (by omega), hw, g2]
theorem s243 {M : aM} (hR : TR M 54 T) (hT : TI T) {b : Nat} (hb : b < 8) : fnA 243 [.inr (some 53), .inl (b : Int)] M = some (some (.inl (andN (rit T b 8) (2 ^ b) : Int)), M) := by
  have hp := Nat.two_pow_pos b
  obtain ⟨w4, w5, w6, hw⟩ := s243j hR hT (b := b) (p8 hb) (.inr none) (.inr none)
  obtain ⟨s', g1, g2⟩ := s243k hR hT hb 8 (2 ^ b) w4 w5 w6 (by omega) (p8 hb) (sub_rf _) (fun _ _ h => h)
  rw [E_243, iShl_1 (by omega), B_243_6, if_neg (by omega), hw, g2, ctl_1 g1 (rit_ctl hT hb)]
end CTL
theorem c_bankIs {W : aM → Prop} (x y : Int) : OK2 W 141 244 [.inl x, .inl y] := fun M hI _ => by
  obtain ⟨T, hC, hR, hT, hZ⟩ := hI.1
  have key : fnA 141 [.inr (some 1), .inl x, .inl y] M = fnA 244 [.inr (some 53), .inl x, .inl y] M ∧ ∃ v, fnA 244 [.inr (some 53), .inl x, .inl y] M = some (some (.inl v), M) := by
    rw [E_141, E_244, s109 (Or.inl rfl) hC hT, s187 hR hT, bI_s, bI_s, bI_s]
    by_cases h : tb (tk T) x
    · obtain ⟨b, hb, rfl⟩ := tbx h
      rw [bI1_t h, if_neg (c := (1 : Int) = 0) (by decide), if_neg (c := (1 : Int) = 0) (by decide), if_neg (c := (1 : Int) = 0) (by decide)]
      by_cases h4 : y = 4
      · subst h4
        rw [if_pos (c := (4 : Int) = 4) rfl, if_neg (by decide), if_neg (by decide), if_neg (by decide), if_neg (by decide), if_pos rfl, s123 (Or.inl rfl) hC hT hb, s195 hR hT hb, bI_s]
        exact ⟨rfl, _, rfl⟩
      rw [if_neg h4, if_neg h4, if_neg h4]
      by_cases h0 : y = 0
      · rw [if_pos h0, if_pos h0, ix0 hb, if_pos (by omega), s114 (Or.inl rfl) hb, bI_s, hC.1 b hb, Int.toNat_natCast, hR b (by omega)]
        exact ⟨rfl, _, rfl⟩
      rw [if_neg h0, if_neg h0]
      by_cases h1 : y = 1
      · rw [if_pos h1, if_pos h1, s110 (Or.inl rfl) hC hT, s188 hR hT, bI_s]
        by_cases ho : tb (ok T) (b : Int)
        · rw [bI1_t ho, if_neg (by decide)]; exact ⟨rfl, _, rfl⟩
        · rw [bI1_f ho, if_pos rfl]; exact ⟨rfl, _, rfl⟩
      rw [if_neg h1, if_neg h1]
      by_cases h2 : y = 2
      · rw [if_pos h2, if_pos h2, s121 (Or.inl rfl) hC hT hb, s192 hR hT hb, bI_s]
        exact ⟨rfl, _, rfl⟩
      rw [if_neg h2, if_neg h2]
      by_cases h3 : y = 3
      · rw [if_pos h3, if_pos h3, s122 (Or.inl rfl) hC hT hb, s193 hR hT hb, bI_s]
        exact ⟨rfl, _, rfl⟩
      rw [if_neg h3, if_neg h3]
      by_cases h5 : y = 5
      · rw [if_pos h5, if_pos h5, s127 (Or.inl rfl) hC hT hb, s243 hR hT hb, bI_s]
        exact ⟨rfl, _, rfl⟩
      rw [if_neg h5, if_neg h5]
      exact ⟨rfl, _, rfl⟩
    · rw [bI1_f h, if_pos (c := (0 : Int) = 0) rfl, if_pos (c := (0 : Int) = 0) rfl, if_pos (c := (0 : Int) = 0) rfl]
      by_cases h4 : y = 4
      · rw [if_pos h4]; exact ⟨rfl, _, rfl⟩
      · rw [if_neg h4]; exact ⟨rfl, _, rfl⟩
  obtain ⟨e1, v, e2⟩ := key
  exact ⟨v, M, M, e1.trans e2, e2, hI, rfl⟩
