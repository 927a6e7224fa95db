/-! ring and road: the widest walks. -/
def mx (f : Nat → Int) : Nat → Int
  | 0 => 0
  | n + 1 => max (mx f n) (f n)
theorem mx_s (f : Nat → Int) (n : Nat) : mx f (n + 1) = max (mx f n) (f n) := rfl
theorem mx_c {f g : Nat → Int} : ∀ {n : Nat}, (∀ i, i < n → f i = g i) → mx f n = mx g n
  | 0, _ => rfl
  | n + 1, h => by rw [mx_s, mx_s, mx_c (n := n) (fun i hi => h i (by omega)), h n (by omega)]
theorem mx_0 (f : Nat → Int) : ∀ n, 0 ≤ mx f n
  | 0 => Int.le_refl _
  | n + 1 => by have := mx_0 f n; rw [mx_s]; omega
theorem mx_le {f : Nat → Int} {w : Int} (hw : 1 ≤ w) : ∀ n, w ≤ mx f n ↔ ∃ a, a < n ∧ w ≤ f a
  | 0 => ⟨fun h => absurd h (by show ¬ w ≤ 0; omega), fun ⟨a, h, _⟩ => absurd h (Nat.not_lt_zero a)⟩
  | n + 1 => by
    have ih := mx_le (f := f) hw n
    rw [mx_s]
    constructor
    · intro h
      by_cases h2 : w ≤ f n
      · exact ⟨n, by omega, h2⟩
      · obtain ⟨a, g1, g2⟩ := ih.mp (by omega)
        exact ⟨a, by omega, g2⟩
    · rintro ⟨a, g1, g2⟩
      by_cases e : a = n
      · subst e; omega
      · have := ih.mpr ⟨a, by omega, g2⟩
        omega
theorem mx_b {f : Nat → Int} {c : Int} (hc : 0 ≤ c) : ∀ {n : Nat}, (∀ i, i < n → f i ≤ c) → mx f n ≤ c
  | 0, _ => hc
  | n + 1, h => by
    have := mx_b (f := f) hc (n := n) (fun i hi => h i (by omega))
    have := h n (by omega)
    rw [mx_s]; omega
/-- the widest walk of just so many steps; from where it begins: u -/
def wk (T : Nat → Int) (b : Nat) (u : Int) : Nat → Nat → Int
  | 0, x => if x = b then u else 0
  | n + 1, y => mx (fun a => min (wk T b u n a) (T (8 + (8 * a + y)))) 8
section RD
variable {T : Nat → Int} {M : aM} {b : Nat}
theorem wk_s (u : Int) (n y : Nat) : wk T b u (n + 1) y = mx (fun a => min (wk T b u n a) (T (8 + (8 * a + y)))) 8 := rfl
theorem wk_b (hT : TI T) {u : Int} (hu : 0 ≤ u) : ∀ n y, y < 8 → 0 ≤ wk T b u n y ∧ (n ≠ 0 → wk T b u n y ≤ 999)
  | 0, y, _ => ⟨by unfold wk; split <;> omega, fun h => absurd rfl h⟩
  | n + 1, y, hy => ⟨mx_0 _ _, fun _ => mx_b (by decide) (fun i hi => by have := (dI hT hi hy).2; omega)⟩
theorem wk_u (hT : TI T) {u v : Int} (hu : 999 ≤ u) (hv : 999 ≤ v) : ∀ n y, y < 8 → n ≠ 0 → wk T b u n y = wk T b v n y
  | 0, _, _, h => absurd rfl h
  | n + 1, y, hy, _ => by
    rw [wk_s, wk_s]
    refine mx_c (fun a ha => ?_)
    have d := dI hT ha hy
    cases n with
    | zero =>
      show min (if a = b then u else 0) _ = min (if a = b then v else 0) _
      split <;> omega
    | succ n => rw [wk_u hT hu hv (n + 1) a ha (by omega)]
-- who is reached by walks as wide as w
def rch (T : Nat → Int) (b : Nat) (w : Int) (n x : Nat) : Prop := ∃ m, m ≤ n ∧ w ≤ wk T b 1000 m x
theorem rch_s {w : Int} (hw : 1 ≤ w) {n x : Nat} (h : rch T b w (n + 1) x) : rch T b w n x ∨ ∃ a, a < 8 ∧ rch T b w n a ∧ w ≤ T (8 + (8 * a + x)) := by
  obtain ⟨m, h1, h2⟩ := h
  by_cases e : m ≤ n
  · exact Or.inl ⟨m, e, h2⟩
  · have : m = n + 1 := by omega
    subst this
    rw [wk_s, mx_le hw] at h2
    obtain ⟨a, g1, g2⟩ := h2
    exact Or.inr ⟨a, g1, ⟨n, Nat.le_refl n, by omega⟩, by omega⟩
theorem rch_e {w : Int} (hw : 1 ≤ w) {n a x : Nat} (ha : a < 8) (h : rch T b w n a) (hd : w ≤ T (8 + (8 * a + x))) : rch T b w (n + 1) x := by
  obtain ⟨m, h1, h2⟩ := h
  refine ⟨m + 1, by omega, ?_⟩
  rw [wk_s, mx_le hw]
  exact ⟨a, ha, by omega⟩
theorem rch_m {w : Int} {n x : Nat} (h : rch T b w n x) : rch T b w (n + 1) x := by
  obtain ⟨m, h1, h2⟩ := h
  exact ⟨m, by omega, h2⟩
noncomputable def cnR (T : Nat → Int) (b : Nat) (w : Int) (n : Nat) : Int := sg (fun x => bI1 (rch T b w n x)) 8
theorem stab {w : Int} (hw : 1 ≤ w) {n : Nat} (h : ∀ x, x < 8 → rch T b w (n + 1) x → rch T b w n x) : ∀ k x, x < 8 → rch T b w (n + k) x → rch T b w n x
  | 0, x, _, hr => hr
  | k + 1, x, hx, hr => by
    rcases rch_s hw hr with g | ⟨a, g1, g2, g3⟩
    · exact stab hw h k x hx g
    · exact h x hx (rch_e hw g1 (stab hw h k a g1 g2) g3)
theorem grow {w : Int} (hw : 1 ≤ w) (hb : b < 8) (hw2 : w ≤ 1000) : ∀ n, (∃ m, m < n ∧ ∀ x, x < 8 → rch T b w (m + 1) x → rch T b w m x) ∨ (n : Int) + 1 ≤ cnR T b w n
  | 0 => by
    right
    have h0 : rch T b w 0 b := ⟨0, Nat.le_refl 0, by unfold wk; rw [if_pos rfl]; exact hw2⟩
    have h1 := sg_ex (f := fun x => bI1 (rch T b w 0 x)) (b := b) (n := 8) hb
    have h2 := sg_nn (f := fun e => if e = b then 0 else bI1 (rch T b w 0 e)) (n := 8) (fun i hi => by
      have := bI1_01 (p := rch T b w 0 i)
      split <;> omega)
    unfold cnR
    rw [h1, bI1_t h0]
    omega
  | n + 1 => by
    rcases grow hw hb hw2 n with ⟨m, g1, g2⟩ | g
    · exact Or.inl ⟨m, by omega, g2⟩
    · by_cases hs : ∀ x, x < 8 → rch T b w (n + 1) x → rch T b w n x
      · exact Or.inl ⟨n, by omega, hs⟩
      · right
        have : ∃ x, x < 8 ∧ rch T b w (n + 1) x ∧ ¬ rch T b w n x := Classical.byContradiction fun z => hs fun x hx hr => Classical.byContradiction fun y => z ⟨x, hx, hr, y⟩
        obtain ⟨x, hx, h1, h2⟩ := this
        have := sg_lt (f := fun y => bI1 (rch T b w n y)) (g := fun y => bI1 (rch T b w (n + 1) y)) (b := x) (n := 8) (fun i hi => by
          by_cases e : rch T b w n i
          · rw [bI1_t e, bI1_t (rch_m e)]; omega
          · rw [bI1_f e]; have := bI1_01 (p := rch T b w (n + 1) i); omega) hx (by rw [bI1_f h2, bI1_t h1]; decide)
        unfold cnR at g ⊢
        omega
/-- what eight steps reach seven reach -/
theorem seven {w : Int} (hw : 1 ≤ w) (hb : b < 8) (hw2 : w ≤ 1000) {x : Nat} (hx : x < 8) (h : rch T b w 8 x) : rch T b w 7 x := by
  rcases grow (T := T) hw hb hw2 7 with ⟨m, g1, g2⟩ | g
  · have := stab hw g2 (8 - m) x hx (by rw [show m + (8 - m) = 8 by omega]; exact h)
    obtain ⟨j, h1, h2⟩ := this
    exact ⟨j, by omega, h2⟩
  · refine Classical.byContradiction fun hn => ?_
    have h1 := sg_ex (f := fun y => bI1 (rch T b w 7 y)) (b := x) (n := 8) hx
    have h2 := sg_b (f := fun e => if e = x then 0 else bI1 (rch T b w 7 e)) (c := 1) (n := 8) (fun i hi => by
      have := bI1_01 (p := rch T b w 7 i)
      split <;> omega)
    have h3 := sg_lt (f := fun e => if e = x then 0 else bI1 (rch T b w 7 e)) (g := fun _ => 1) (b := x) (n := 8) (fun i hi => by
      have := bI1_01 (p := rch T b w 7 i)
      split <;> omega) hx (by rw [if_pos rfl]; decide)
    have h4 : sg (fun _ => (1 : Int)) 8 = 8 := by decide
    rw [bI1_f hn] at h1
    unfold cnR at g
    omega
theorem eight (hT : TI T) (hb : b < 8) {x : Nat} (hx : x < 8) (hxb : x ≠ b) {best : Int} (h0 : 0 ≤ best) (hbest : ∀ m, 1 ≤ m → m ≤ 7 → wk T b 1000 m x ≤ best) : wk T b 1000 8 x ≤ best := by
  refine Classical.byContradiction fun hn => ?_
  have h1 := (wk_b hT (b := b) (u := 1000) (by decide) 8 x hx).2 (by decide)
  have h2 : rch T b (wk T b 1000 8 x) 8 x := ⟨8, Nat.le_refl 8, Int.le_refl _⟩
  obtain ⟨m, g1, g2⟩ := seven (by omega) hb (by omega) hx h2
  have g3 : m ≠ 0 := fun e => by
    rw [e] at g2
    have : wk T b 1000 0 x = 0 := by unfold wk; exact if_neg hxb
    omega
  have := hbest m (by omega) g1
  omega
/-- the class's widths -/
theorem s88 (M : aM) {n x : Nat} (hn : n ≤ 8) (hx : x < 8) : fnA 88 [.inr (some 34), .inl (n : Int), .inl (x : Int)] M = some (some (.inl (M 35 (8 * n + x))), M) := by
  have e : wr (wr ((n : Int) * 8) + (x : Int)) = ((8 * n + x : Nat) : Int) := by unfold wr; omega
  rw [E_88, if_neg (by omega), if_neg (by omega), s177n hx, bI_s, if_neg (by decide), e, if_pos (by omega), Int.toNat_natCast]
theorem s87 {k : Nat} (hk : isT k) (hC : TC M k T) {n y : Nat} (hn : n < 8) (hy : y < 8) (h : ∀ a, a < 8 → M 35 (8 * n + a) = wk T b 1000 n a) : fnA 87 [.inr (some 34), .inr (some k), .inl ((n + 1 : Nat) : Int), .inl (y : Int)] M = some (some (.inl (wk T b 1000 (n + 1) y)), M) := by
  rw [E_87 _ _ _ _ hk]
  obtain ⟨s', hs, he⟩ := upR (fun i (s : Int) => run 2 87 6 [.inr (some 34), .inr (some k), .inl ((n + 1 : Nat) : Int), .inl (y : Int), .inl s, .inl i] [] M) (fun i s => s = mx (fun a => min (wk T b 1000 n a) (T (8 + (8 * a + y)))) i) 8 (by decide) (fun i s hi hs => by
    subst hs
    refine ⟨_, ?_, rfl⟩
    have e : wr (((n + 1 : Nat) : Int) - 1) = (n : Int) := by rw [wr_s (by omega) (by omega)]; omega
    rw [B_87_6 _ _ _ _ _ _ hk, if_neg (by omega), e, s88 M (by omega) hi, bI_s, s116 hk hi hy, bI_s, h i hi, hC.2.1 _ (by omega), mx_s]) 8 0 0 (by omega) rfl
  subst hs
  refine Eq.trans he ?_
  rw [B_87_6 _ _ _ _ _ _ hk, if_pos (by decide)]
  rfl
theorem s86 (hC : TC M 4 T) (hb : b < 8) : ∃ M', fnA 86 [.inr (some 34), .inr (some 4), .inl (b : Int)] M = some (none, M') ∧ (∀ n x, n ≤ 8 → x < 8 → M' 35 (8 * n + x) = wk T b 1000 n x) ∧ ∀ q, q ≠ 35 → M' q = M q := by
  rw [E_86 _ _ _ (Or.inl rfl)]
  obtain ⟨M1, ⟨a1, a2⟩, ae⟩ := upM8 (fun i M' => run 3 86 2 [.inr (some 34), .inr (some 4), .inl (b : Int), .inl i, .inr none] [] M') (fun i M' => (∀ x, x < i → M' 35 x = wk T b 1000 0 x) ∧ ∀ q, q ≠ 35 → M' q = M q) (fun i M' hi hI => by
    obtain ⟨g1, g2⟩ := hI
    refine ⟨upM M' 35 i (wk T b 1000 0 i), ?_, fun x hx => ?_, fun q hq => by rw [up_ne hq]; exact g2 q hq⟩
    · rw [B_86_2 _ _ _ _ (Or.inl rfl), if_neg (by omega)]
      unfold wk
      by_cases e : i = b
      · rw [if_pos (by omega), if_pos (by omega), if_pos e, Int.toNat_natCast]
      · rw [if_neg (by omega), if_pos (by omega), if_neg e, Int.toNat_natCast]
    · rw [up_r]
      by_cases e : x = i
      · rw [if_pos ⟨rfl, e⟩, e]
      · rw [if_neg (fun z => e z.2)]; exact g1 x (by omega)) (M := M) ⟨fun x hx => absurd hx (Nat.not_lt_zero x), fun _ _ => rfl⟩
  rw [ae, B_86_2 _ _ _ _ (Or.inl rfl), if_pos (by decide)]
  obtain ⟨s', hs, he⟩ := upR (fun i (s : aM × aV) => run 3 86 34 [.inr (some 34), .inr (some 4), .inl (b : Int), .inl (i + 1), s.2] [] s.1) (fun i s => (∀ n x, n ≤ i → x < 8 → s.1 35 (8 * n + x) = wk T b 1000 n x) ∧ ∀ q, q ≠ 35 → s.1 q = M q) 8 (by decide) (fun i s hi hs => by
    obtain ⟨M2, v⟩ := s
    dsimp only at hs ⊢
    obtain ⟨g1, g2⟩ := hs
    have hC2 : TC M2 4 T := hC.mv (g2 4 (by decide)) (g2 5 (by decide)) (g2 6 (by decide)) (g2 7 (by decide))
    obtain ⟨M3, ⟨k1, k2, k3⟩, ke⟩ := upM8 (fun j M' => run 3 86 43 [.inr (some 34), .inr (some 4), .inl (b : Int), .inl ((i + 1 : Nat) : Int), .inl j] [] M') (fun j M' => (∀ n x, n ≤ i → x < 8 → M' 35 (8 * n + x) = wk T b 1000 n x) ∧ (∀ x, x < j → M' 35 (8 * (i + 1) + x) = wk T b 1000 (i + 1) x) ∧ ∀ q, q ≠ 35 → M' q = M q) (fun j M' hj hI => by
      obtain ⟨k1, k2, k3⟩ := hI
      have hC3 : TC M' 4 T := hC.mv (k3 4 (by decide)) (k3 5 (by decide)) (k3 6 (by decide)) (k3 7 (by decide))
      have e : wr (wr (((i + 1 : Nat) : Int) * 8) + (j : Int)) = ((8 * (i + 1) + j : Nat) : Int) := by unfold wr; omega
      refine ⟨upM M' 35 (8 * (i + 1) + j) (wk T b 1000 (i + 1) j), ?_, fun n x hn hx => ?_, fun x hx => ?_, fun q hq => by rw [up_ne hq]; exact k3 q hq⟩
      · rw [B_86_43 _ _ _ _ _ (Or.inl rfl), if_neg (by omega), s87 (b := b) (Or.inl rfl) hC3 hi hj (fun a ha => k1 i a (by omega) ha), bI_s, e, if_pos (by omega), Int.toNat_natCast]
      · rw [up_j (by omega)]; exact k1 n x hn hx
      · by_cases e2 : x = j
        · rw [e2, up_s]
        · rw [up_j (by omega)]; exact k2 x (by omega)) (M := M2) ⟨g1, fun x hx => absurd hx (Nat.not_lt_zero x), g2⟩
    refine ⟨(M3, .inl 8), ?_, fun n x hn hx => ?_, k3⟩
    · rw [B_86_34 _ _ _ _ _ (Or.inl rfl), if_neg (by omega)]
      have e : wr ((i : Int) + 1) = (i : Int) + 1 := wr_s (by omega) (by omega)
      rw [e]
      refine Eq.trans ke ?_
      rw [B_86_43 _ _ _ _ _ (Or.inl rfl), if_pos (by decide), show ((i + 1 : Nat) : Int) = (i : Int) + 1 from rfl, wr_s (z := (i : Int) + 1 + 1) (by omega) (by omega)]
    · show M3 35 (8 * n + x) = _
      by_cases e : n = i + 1
      · rw [e]; exact k2 x hx
      · exact k1 n x (by omega) hx) 8 0 (M1, .inr none) (by omega) ⟨fun n x hn hx => by
    have : n = 0 := by omega
    subst this
    show M1 35 (8 * 0 + x) = _
    rw [Nat.mul_zero, Nat.zero_add]; exact a1 x hx, a2⟩
  obtain ⟨M', v⟩ := s'
  obtain ⟨k1, k2⟩ := hs
  refine ⟨M', ?_, fun n x hn hx => k1 n x hn hx, k2⟩
  refine Eq.trans he ?_
  dsimp only
  rw [B_86_34 _ _ _ _ _ (Or.inl rfl), if_pos (by decide)]
end RD
