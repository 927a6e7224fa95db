/-! Who controls whom: two ways to the least closed set; bankIs; feed. -/
def sub (s t : Nat) : Prop := ∀ i, s.testBit i = true → t.testBit i = true
theorem sub_rf (s : Nat) : sub s s := fun _ h => h
theorem sub.tr {s t u : Nat} (h : sub s t) (h2 : sub t u) : sub s u := fun i hi => h2 i (h i hi)
theorem sub_eq {s t : Nat} (h1 : sub s t) (h2 : sub t s) : s = t := by
  apply Nat.eq_of_testBit_eq
  intro i
  cases e : s.testBit i
  · cases e2 : t.testBit i
    · rfl
    · rw [h2 i e2] at e; cases e
  · exact (h1 i e).symm
theorem sub_or {s k : Nat} : sub s (s ||| 2 ^ k) := fun i h => by rw [or_pow_bit, h]; rfl
theorem or_sub {s t k : Nat} (h : sub s t) (hk : t.testBit k = true) : sub (s ||| 2 ^ k) t := fun i hi => by
  rw [or_pow_bit] at hi
  simp only [Bool.or_eq_true, decide_eq_true_eq] at hi
  rcases hi with hi | rfl
  · exact h i hi
  · exact hk
theorem pct_mono {s t : Nat} (h : sub s t) : ∀ n, pct s n ≤ pct t n
  | 0 => Nat.le_refl _
  | n + 1 => by
    have := pct_mono h n
    unfold pct
    by_cases e : s.testBit n = true
    · rw [if_pos e, if_pos (h n e)]; omega
    · rw [if_neg e]; omega
theorem pct_lt {s t : Nat} (h : sub s t) {k : Nat} (h1 : s.testBit k = false) (h2 : t.testBit k = true) : ∀ n, k < n → pct s n < pct t n
  | 0, hn => absurd hn (by omega)
  | n + 1, hn => by
    unfold pct
    by_cases e : n = k
    · subst e
      have := pct_mono h n
      rw [if_neg (by rw [h1]; decide), if_pos h2]; omega
    · have := pct_lt h h1 h2 n (by omega)
      by_cases e : s.testBit n = true
      · rw [if_pos e, if_pos (h n e)]; omega
      · rw [if_neg e]; omega
/-- a step that is not the last one adds a bit -/
theorem pct_up {s t : Nat} (h : sub s t) (ht : t < 256) (hn : t ≠ s) : pct s 8 < pct t 8 := by
  by_cases hx : ∃ k, k < 8 ∧ s.testBit k = false ∧ t.testBit k = true
  · obtain ⟨k, h1, h2, h3⟩ := hx
    exact pct_lt h h2 h3 8 h1
  · exfalso
    refine hn (sub_eq (fun i hi => ?_) h)
    by_cases h8 : i < 8
    · cases e : s.testBit i
      · exact absurd ⟨i, h8, e, hi⟩ hx
      · rfl
    · rw [bit_lt (n := 8) ht (by omega)] at hi; cases hi
def aShs (T : Nat → Int) (s e : Nat) : Int := sg (fun a => if s.testBit a = true then T (72 + (8 * a + e)) else 0) 8
def clsd (T : Nat → Int) (s : Nat) : Prop := ∀ e, e < 8 → 50 < aShs T s e → s.testBit e = true
theorem aShs_p {T : Nat → Int} (hT : TI T) {s e : Nat} (he : e < 8) {i : Nat} (hi : i < 8) : 0 ≤ (if s.testBit i = true then T (72 + (8 * i + e)) else 0) ∧ (if s.testBit i = true then T (72 + (8 * i + e)) else 0) ≤ T (72 + (8 * i + e)) := by
  have := hT.2.2.2.2.1 (8 * i + e) (by omega)
  split <;> omega
theorem sg_le {f g : Nat → Int} : ∀ {n : Nat}, (∀ i, i < n → f i ≤ g i) → sg f n ≤ sg g n
  | 0, _ => Int.le_refl _
  | n + 1, h => by
    have := sg_le (n := n) (fun i hi => h i (by omega))
    have := h n (by omega)
    rw [sg_s, sg_s]; omega
theorem sg_nn {f : Nat → Int} : ∀ {n : Nat}, (∀ i, i < n → 0 ≤ f i) → 0 ≤ sg f n
  | 0, _ => Int.le_refl _
  | n + 1, h => by
    have := sg_nn (n := n) (fun i hi => h i (by omega))
    have := h n (by omega)
    rw [sg_s]; omega
theorem aShs_n {T : Nat → Int} (hT : TI T) {s e : Nat} (he : e < 8) (n : Nat) (hn : n ≤ 8) : 0 ≤ sg (fun a => if s.testBit a = true then T (72 + (8 * a + e)) else 0) n ∧ sg (fun a => if s.testBit a = true then T (72 + (8 * a + e)) else 0) n ≤ 100 := by
  refine ⟨sg_nn (fun i hi => (aShs_p hT he (by omega)).1), ?_⟩
  have h1 := sg_mono (f := fun a => if s.testBit a = true then T (72 + (8 * a + e)) else 0) (fun i hi => (aShs_p hT he hi).1) (8 - n) n (by omega)
  have h2 := sg_le (f := fun a => if s.testBit a = true then T (72 + (8 * a + e)) else 0) (g := fun a => T (72 + (8 * a + e))) (n := 8) (fun i hi => (aShs_p hT he hi).2)
  have h3 := hT.2.2.2.2.2.1 e he
  omega
theorem aShs_m {T : Nat → Int} (hT : TI T) {s t e : Nat} (he : e < 8) (h : sub s t) : aShs T s e ≤ aShs T t e := by
  refine sg_le (fun i hi => ?_)
  have := hT.2.2.2.2.1 (8 * i + e) (by omega)
  by_cases e1 : s.testBit i = true
  · rw [if_pos e1, if_pos (h i e1)]; omega
  · rw [if_neg e1]; split <;> omega
/-- what both ways come to -/
def ctl (T : Nat → Int) (b s : Nat) : Prop := s < 256 ∧ sub (2 ^ b) s ∧ clsd T s ∧ ∀ C, clsd T C → sub (2 ^ b) C → sub s C
theorem ctl_1 {T : Nat → Int} {b s t : Nat} (h : ctl T b s) (h2 : ctl T b t) : s = t := sub_eq (h.2.2.2 t h2.2.2.1 h2.2.1) (h2.2.2.2 s h.2.2.1 h.2.1)
noncomputable def rnd (T : Nat → Int) (s : Nat) : Nat → Nat
  | 0 => s
  | n + 1 => if aShs T (rnd T s n) n ≤ 50 then rnd T s n else rnd T s n ||| 2 ^ n
theorem rnd_s (T : Nat → Int) (s n : Nat) : rnd T s (n + 1) = if aShs T (rnd T s n) n ≤ 50 then rnd T s n else rnd T s n ||| 2 ^ n := rfl
noncomputable def jac (T : Nat → Int) (s : Nat) : Nat → Nat
  | 0 => s
  | n + 1 => if aShs T s n ≤ 50 then jac T s n else jac T s n ||| 2 ^ n
theorem jac_s (T : Nat → Int) (s n : Nat) : jac T s (n + 1) = if aShs T s n ≤ 50 then jac T s n else jac T s n ||| 2 ^ n := rfl
section CTL
variable {T : Nat → Int}
theorem rnd_up (s n m : Nat) : sub (rnd T s n) (rnd T s (n + m)) := by
  induction m with
  | zero => exact sub_rf _
  | succ m ih =>
    rw [← Nat.add_assoc, rnd_s]
    split
    · exact ih
    · exact ih.tr sub_or
theorem jac_up (s n m : Nat) : sub (jac T s n) (jac T s (n + m)) := by
  induction m with
  | zero => exact sub_rf _
  | succ m ih =>
    rw [← Nat.add_assoc, jac_s]
    split
    · exact ih
    · exact ih.tr sub_or
theorem rnd_lt {s : Nat} (hs : s < 256) : ∀ n, n ≤ 8 → rnd T s n < 256
  | 0, _ => hs
  | n + 1, h => by
    rw [rnd_s]
    split
    · exact rnd_lt hs n (by omega)
    · exact or_pow_lt (n := 8) (rnd_lt hs n (by omega)) (by omega)
theorem jac_lt {s : Nat} (hs : s < 256) : ∀ n, n ≤ 8 → jac T s n < 256
  | 0, _ => hs
  | n + 1, h => by
    rw [jac_s]
    split
    · exact jac_lt hs n (by omega)
    · exact or_pow_lt (n := 8) (jac_lt hs n (by omega)) (by omega)
theorem rnd_in (hT : TI T) {s C : Nat} (hC : clsd T C) (h : sub s C) : ∀ n, n ≤ 8 → sub (rnd T s n) C
  | 0, _ => h
  | n + 1, hn => by
    have ih := rnd_in hT hC h n (by omega)
    rw [rnd_s]
    split
    · exact ih
    · next hx => exact or_sub ih (hC n (by omega) (by have := aShs_m hT (e := n) (by omega) ih; omega))
theorem jac_in (hT : TI T) {s C : Nat} (hC : clsd T C) (h : sub s C) : ∀ n, n ≤ 8 → sub (jac T s n) C
  | 0, _ => h
  | n + 1, hn => by
    have ih := jac_in hT hC h n (by omega)
    rw [jac_s]
    split
    · exact ih
    · next hx => exact or_sub ih (hC n (by omega) (by have := aShs_m hT (e := n) (by omega) h; omega))
theorem rnd_fix {s : Nat} (h : rnd T s 8 = s) : clsd T s := fun e he h5 => by
  have h1 : rnd T s e = s := sub_eq (by
    have := rnd_up (T := T) s e (8 - e)
    rw [show e + (8 - e) = 8 by omega, h] at this
    exact this) (by
    have := rnd_up (T := T) s 0 e
    rw [Nat.zero_add] at this
    exact this)
  have h2 : rnd T s (e + 1) = s := sub_eq (by
    have := rnd_up (T := T) s (e + 1) (8 - (e + 1))
    rw [show (e + 1) + (8 - (e + 1)) = 8 by omega, h] at this
    exact this) (by
    have := rnd_up (T := T) s 0 (e + 1)
    rw [Nat.zero_add] at this
    exact this)
  rw [rnd_s, h1, if_neg (by omega)] at h2
  have := or_pow_bit (a := s) (k := e) (i := e)
  rw [h2] at this
  simpa using this
theorem jac_fix {s : Nat} (h : jac T s 8 = s) : clsd T s := fun e he h5 => by
  have h2 : sub (jac T s (e + 1)) s := by
    have := jac_up (T := T) s (e + 1) (8 - (e + 1))
    rw [show (e + 1) + (8 - (e + 1)) = 8 by omega, h] at this
    exact this
  rw [jac_s, if_neg (by omega)] at h2
  exact h2 e (by rw [or_pow_bit]; simp)
noncomputable def rit (T : Nat → Int) (b : Nat) : Nat → Nat
  | 0 => 2 ^ b
  | n + 1 => rnd T (rit T b n) 8
theorem rit_s (b n : Nat) : rit T b (n + 1) = rnd T (rit T b n) 8 := rfl
theorem p8 {b : Nat} (hb : b < 8) : 2 ^ b < 256 := Nat.pow_lt_pow_right (n := 8) (by decide) hb
theorem rit_lt {b : Nat} (hb : b < 8) : ∀ n, rit T b n < 256
  | 0 => p8 hb
  | n + 1 => rnd_lt (rit_lt hb n) 8 (by omega)
theorem rit_w (hT : TI T) {b : Nat} : ∀ n, sub (2 ^ b) (rit T b n) ∧ ∀ C, clsd T C → sub (2 ^ b) C → sub (rit T b n) C
  | 0 => ⟨sub_rf _, fun _ _ h => h⟩
  | n + 1 => by
    obtain ⟨h1, h2⟩ := rit_w hT (b := b) n
    refine ⟨h1.tr ?_, fun C hC hb => rnd_in hT hC (h2 C hC hb) 8 (by omega)⟩
    have := rnd_up (T := T) (rit T b n) 0 8
    exact this
theorem rit_c {b : Nat} (hb : b < 8) : ∀ n, clsd T (rit T b n) ∨ n + 1 ≤ pct (rit T b n) 8
  | 0 => by
    right
    have := pct_lt (s := 0) (t := 2 ^ b) (fun i h => by rw [Nat.zero_testBit] at h; cases h) (k := b) (Nat.zero_testBit b) (by rw [Nat.testBit_two_pow]; simp) 8 hb
    unfold rit
    omega
  | n + 1 => by
    have hup : sub (rit T b n) (rit T b (n + 1)) := rnd_up (T := T) (rit T b n) 0 8
    by_cases e : rit T b (n + 1) = rit T b n
    · left
      rw [e]
      exact rnd_fix e
    · right
      have h1 := pct_up hup (rit_lt hb (n + 1)) e
      rcases rit_c hb n with h | h
      · exact absurd (sub_eq (rnd_in' h) hup) e
      · omega
where rnd_in' {n : Nat} (h : clsd T (rit T b n)) : sub (rit T b (n + 1)) (rit T b n) := sorry
end CTL
