/-! All pay at once: the rounds, without machine. -/
def gQ (T p : Nat → Int) (b a : Nat) : Int := if 0 < aOwes T a then (T (8 + (8 * a + b)) * p a).tdiv (aOwes T a) else 0
def gP (T p : Nat → Int) (b : Nat) : Int := sg (gQ T p b) 8
def canP (T c p : Nat → Int) (b : Nat) : Int := min (aOwes T b) (c b + gP T p b)
def nP (T c p : Nat → Int) (b : Nat) : Int := if canP T c p b < p b then canP T c p b else p b
def nF (T c p f : Nat → Int) (r : Int) (b : Nat) : Int := if canP T c p b < p b ∧ f b = 0 then r else f b
def itP (T c : Nat → Int) : Nat → Nat → Int
  | 0 => aOwes T
  | k + 1 => nP T c (itP T c k)
def itF (T c : Nat → Int) : Nat → Nat → Int
  | 0 => fun _ => 0
  | k + 1 => nF T c (itP T c k) (itF T c k) ((k + 1 : Nat) : Int)
def lessP (T c p : Nat → Int) : Prop := ∃ b, b < 8 ∧ canP T c p b < p b
def CB (c : Nat → Int) : Prop := ∀ b, b < 8 → 0 ≤ c b ∧ c b ≤ 19998
def PB (T p : Nat → Int) : Prop := ∀ b, b < 8 → 0 ≤ p b ∧ p b ≤ aOwes T b
section CLR
variable {T c p : Nat → Int}
theorem dv_b {D p o : Int} (h1 : 0 ≤ D) (h2 : 0 ≤ p) (h3 : p ≤ o) (h4 : 0 < o) : 0 ≤ (D * p).tdiv o ∧ (D * p).tdiv o ≤ D := by
  have h5 : 0 ≤ D * p := Int.mul_nonneg h1 h2
  rw [Int.tdiv_eq_ediv_of_nonneg h5]
  exact ⟨Int.ediv_nonneg h5 (by omega), Int.ediv_le_of_le_mul h4 (Int.mul_le_mul_of_nonneg_left h3 h1)⟩
theorem gQ_b (hT : TI T) (hp : PB T p) {a b : Nat} (ha : a < 8) (hb : b < 8) : 0 ≤ gQ T p b a ∧ gQ T p b a ≤ T (8 + (8 * a + b)) := by
  have h1 := dI hT ha hb
  unfold gQ
  split
  · next h => exact dv_b h1.1 (hp a ha).1 (hp a ha).2 h
  · exact ⟨Int.le_refl _, h1.1⟩
theorem gP_b (hT : TI T) (hp : PB T p) {b : Nat} (hb : b < 8) : 0 ≤ gP T p b ∧ gP T p b ≤ 7992 := by
  have h1 := sg_nn (f := gQ T p b) (n := 8) (fun i hi => (gQ_b hT hp hi hb).1)
  have h2 := sg_le (f := gQ T p b) (g := fun a => T (8 + (8 * a + b))) (n := 8) (fun i hi => (gQ_b hT hp hi hb).2)
  have h3 := aGets_b hT hb
  unfold aGets at h3
  unfold gP
  omega
theorem canP_b (hT : TI T) (hc : CB c) (hp : PB T p) {b : Nat} (hb : b < 8) : 0 ≤ canP T c p b ∧ canP T c p b ≤ aOwes T b := by
  have h1 := gP_b hT hp hb
  have h2 := hc b hb
  have h3 := aOwes_b hT hb
  unfold canP
  omega
theorem nP_b (hT : TI T) (hc : CB c) (hp : PB T p) : PB T (nP T c p) := fun b hb => by
  have h1 := canP_b hT hc hp hb
  have h2 := hp b hb
  unfold nP
  split <;> omega
theorem itP_b (hT : TI T) (hc : CB c) : ∀ k, PB T (itP T c k)
  | 0 => fun b hb => ⟨(aOwes_b hT hb).1, Int.le_refl _⟩
  | k + 1 => nP_b hT hc (itP_b hT hc k)
theorem sg_lt {f g : Nat → Int} {b : Nat} : ∀ {n : Nat}, (∀ i, i < n → f i ≤ g i) → b < n → f b < g b → sg f n < sg g n
  | 0, _, h, _ => absurd h (by omega)
  | n + 1, h, hb, hl => by
    rw [sg_s, sg_s]
    by_cases e : b = n
    · subst e
      have := sg_le (n := b) (fun i hi => h i (by omega))
      omega
    · have := sg_lt (n := n) (b := b) (fun i hi => h i (by omega)) (by omega) hl
      have := h n (by omega)
      omega
theorem nP_le (b : Nat) : nP T c p b ≤ p b := by
  unfold nP
  split <;> omega
theorem nP_dn (h : lessP T c p) : sg (nP T c p) 8 < sg p 8 := by
  obtain ⟨b, hb, hl⟩ := h
  exact sg_lt (fun i _ => nP_le i) hb (by unfold nP; rw [if_pos hl]; exact hl)
theorem cl_ex (hT : TI T) (hc : CB c) : ∀ (n k : Nat), sg (itP T c k) 8 ≤ (n : Int) → ∃ K, k ≤ K ∧ K ≤ k + n ∧ (∀ j, k ≤ j → j < K → lessP T c (itP T c j)) ∧ ¬ lessP T c (itP T c K) := by
  intro n
  induction n with
  | zero =>
    intro k hk
    refine ⟨k, by omega, by omega, fun j h1 h2 => absurd h1 (by omega), fun h => ?_⟩
    have h1 := nP_dn h
    have h2 := sg_nn (f := nP T c (itP T c k)) (n := 8) (fun i hi => (itP_b hT hc (k + 1) i hi).1)
    omega
  | succ n ih =>
    intro k hk
    by_cases h : lessP T c (itP T c k)
    · have h1 := nP_dn h
      obtain ⟨K, g1, g2, g3, g4⟩ := ih (k + 1) (by show sg (nP T c (itP T c k)) 8 ≤ _; omega)
      refine ⟨K, by omega, by omega, fun j h2 h3 => ?_, g4⟩
      by_cases e : j = k
      · rw [e]; exact h
      · exact g3 j (by omega) h3
    · exact ⟨k, by omega, by omega, fun j h1 h2 => absurd h1 (by omega), h⟩
def CE (T c : Nat → Int) (K : Nat) : Prop := K ≤ 63936 ∧ (∀ j, j < K → lessP T c (itP T c j)) ∧ ¬ lessP T c (itP T c K)
theorem CE_ex (hT : TI T) (hc : CB c) : ∃ K, CE T c K := by
  have h := aAll_b hT
  obtain ⟨K, h1, h2, h3, h4⟩ := cl_ex (T := T) (c := c) hT hc 63936 0 h.2
  exact ⟨K, by omega, fun j hj => h3 j (by omega) hj, h4⟩
theorem CE_1 {K L : Nat} (h1 : CE T c K) (h2 : CE T c L) : K = L := by
  rcases Nat.lt_trichotomy K L with h | h | h
  · exact absurd (h2.2.1 K h) h1.2.2
  · exact h
  · exact absurd (h1.2.1 L h) h2.2.2
theorem F_b : ∀ k b, 0 ≤ itF T c k b ∧ itF T c k b ≤ (k : Int)
  | 0, b => ⟨Int.le_refl _, Int.le_refl _⟩
  | k + 1, b => by
    have := F_b k b
    show 0 ≤ nF _ _ _ _ _ _ ∧ nF _ _ _ _ _ _ ≤ _
    unfold nF
    split <;> omega
theorem F_iff (hT : TI T) (hc : CB c) {b : Nat} (hb : b < 8) : ∀ k, itF T c k b = 0 ↔ itP T c k b = aOwes T b
  | 0 => ⟨fun _ => rfl, fun _ => rfl⟩
  | k + 1 => by
    have ih := F_iff hT hc hb k
    have h1 := itP_b hT hc k b hb
    have h2 := F_b (T := T) (c := c) k b
    show nF _ _ _ _ _ _ = 0 ↔ nP _ _ _ _ = _
    unfold nF nP
    by_cases h : canP T c (itP T c k) b < itP T c k b
    · rw [if_pos h]
      by_cases hf : itF T c k b = 0
      · rw [if_pos ⟨h, hf⟩]; omega
      · rw [if_neg (fun z => hf z.2)]; omega
    · rw [if_neg h, if_neg (fun z => h z.1)]
      exact ih
theorem cdB_cc {f g : Nat → Int} : ∀ {n : Nat}, (∀ i, i < n → (f i ≤ 0 ↔ g i ≤ 0)) → cdB f n = cdB g n
  | 0, _ => rfl
  | n + 1, h => by
    rw [cdB_s, cdB_s, cdB_cc (n := n) (fun i hi => h i (by omega))]
    have := h n (by omega)
    by_cases e : f n ≤ 0
    · rw [if_pos e, if_pos (this.mp e)]
    · rw [if_neg e, if_neg (fun z => e (this.mpr z))]
theorem cdB_bit (f : Nat → Int) (i : Nat) : ∀ n, (cdB f n).testBit i = (decide (i < n) && decide (0 < f i))
  | 0 => by simp [cdB]
  | n + 1 => by
    rw [cdB_s]
    have ih := cdB_bit f i n
    split
    · next h =>
      rw [ih]
      by_cases e : i = n
      · subst e; simp; omega
      · by_cases e2 : i < n
        · simp [e2, Nat.lt_succ_of_lt e2]
        · have : ¬ i < n + 1 := by omega
          simp [e2, this]
    · next h =>
      rw [or_pow_bit, ih]
      by_cases e : i = n
      · subst e; simp; omega
      · have e' : ¬ n = i := fun z => e z.symm
        by_cases e2 : i < n
        · simp [e2, Nat.lt_succ_of_lt e2, e']
        · have : ¬ i < n + 1 := by omega
          simp [e2, this, e']
/-- who falls -/
def fM (T c : Nat → Int) (K : Nat) : Nat := cdB (itF T c K) 8
theorem fM_lt (K : Nat) : fM T c K < 256 := cdB_lt _ 8
theorem fM_r (hT : TI T) (hc : CB c) (K : Nat) : cdB (fun b => aOwes T b - itP T c K b) 8 = fM T c K := by
  refine cdB_cc (fun i hi => ?_)
  have h1 := F_iff hT hc hi K
  have h2 := itP_b hT hc K i hi
  have h3 := F_b (T := T) (c := c) K i
  omega
theorem gP_c {q : Nat → Int} {b : Nat} (h : ∀ a, a < 8 → p a = q a) : gP T p b = gP T q b := sg_c (fun i hi => by unfold gQ; rw [h i hi])
end CLR
